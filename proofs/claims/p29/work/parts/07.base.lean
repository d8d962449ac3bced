/-! THE MEMORY: ints and references by address and place (0 is null); the kinds of the addresses; one row for each instruction that touches the heap -/
abbrev bz_W : Type := (Nat → Nat → Int32) × (Nat → Nat → Nat)
def bz_wi (σ : bz_W) (a k : Nat) (v : Int32) : bz_W := (fun b => if b = a then upd (σ.1 a) k v else σ.1 b, σ.2)
def bz_wr (σ : bz_W) (a k : Nat) (r : Nat) : bz_W := (σ.1, fun b => if b = a then (fun j => if j = k then r else σ.2 a j) else σ.2 b)
def bz_wb (σ : bz_W) (a : Nat) (f : Nat → Int32) : bz_W := (fun b => if b = a then f else σ.1 b, σ.2)
abbrev bz_G : Type := va_G × (Nat → ClassId) × (Nat → Nat × Nat) × List Nat × (Nat → Prop) × (Nat → Nat) × (Nat → Nat)
abbrev bz_cy (G : bz_G) : Nat → ClassId := G.2.1
abbrev bz_k (G : bz_G) : Nat → Nat × Nat := G.2.2.1
abbrev bz_L (G : bz_G) : List Nat := G.2.2.2.1
abbrev bz_A (G : bz_G) : Nat → Prop := G.2.2.2.2.1
abbrev bz_aK (G : bz_G) : Nat → Nat := G.2.2.2.2.2.1
abbrev bz_aV (G : bz_G) : Nat → Nat := G.2.2.2.2.2.2
def bz_ro (x : Nat) : Option Nat := if x = 0 then none else some x
abbrev bz_rv (x : Nat) : Value := va_rf (bz_ro x)
def bz_cE (cy : Nat → ClassId) (k : Nat × Nat) (f : Nat → Int32) (r : Nat → Nat) : va_E := match k.1 with
  | 1 => .inr (0, [bz_rv (r 0), bz_rv (r 1), bz_rv (r 2), .int (f 3)])
  | 2 => .inr (1, [bz_rv (r 0), .int (f 1)])
  | 3 => .inr (2, [.int (f 0), bz_rv (r 1), .int (f 2), .int (f 3), .int (f 4), .int (f 5), .int (f 6), .int (f 7), .int (f 8), .int (f 9), .int (f 10), .int (f 11), .int (f 12), .int (f 13), .int (f 14)])
  | 4 => .inr (3, [bz_rv (r 0), bz_rv (r 1), bz_rv (r 2), .int (f 3), .int (f 4), .int (f 5), .int (f 6), .int (f 7)])
  | 5 => .inr (4, [bz_rv (r 0), bz_rv (r 1), bz_rv (r 2), bz_rv (r 3), .int (f 4), .int (f 5)])
  | 6 => .inr (5, [bz_rv (r 0), .int (f 1), .int (f 2), .int (f 3), .int (f 4), .int (f 5), .int (f 6)])
  | 7 => .inr (6, [bz_rv (r 0), bz_rv (r 1), bz_rv (r 2), .int (f 3), bz_rv (r 4), bz_rv (r 5), bz_rv (r 6), .int (f 7)])
  | 9 => .inl (cy 0, k.2, .inl f)
  | 10 => .inl (cy 1, k.2, .inl f)
  | 11 => .inl (cy 2, k.2, .inr (.inr (.inr (.inr (fun j => bz_ro (r j))))))
  | _ => .inl (cy 3, k.2, .inr (.inr (.inr (.inr (fun j => bz_ro (r j))))))
def bz_F (G : bz_G) (σ : bz_W) : Nat → va_E := fun a => bz_cE (bz_cy G) (bz_k G a) (σ.1 a) (σ.2 a)
def bz_V (G : bz_G) (σ : bz_W) (H : Heap) : Prop := va_P G.1 vwCl (va_pl (bz_L G) (bz_F G σ)) H
def bz_ty (G : bz_G) : List (ClassId × FieldType) := [(bz_cy G 0, .int), (bz_cy G 1, .char), (bz_cy G 2, .object RX2), (bz_cy G 3, .object RX3)]
/-- each reference points to a cell of its kind -/
def bz_R (κ : Nat → Nat × Nat) (ρ : Nat → Nat → Nat) : Prop :=
  (∀ a, κ a = (1, 0) → κ (ρ a 0) = (9, 10)) ∧ (∀ a, κ a = (1, 0) → κ (ρ a 1) = (9, 10)) ∧ (∀ a, κ a = (1, 0) → κ (ρ a 2) = (9, 10)) ∧ (∀ a, κ a = (2, 0) → κ (ρ a 0) = (12, 4)) ∧ (∀ a, κ a = (3, 0) → κ (ρ a 1) = (9, 7)) ∧ (∀ a, κ a = (4, 0) → κ (ρ a 0) = (11, 8)) ∧ (∀ a, κ a = (4, 0) → κ (ρ a 1) = (5, 0)) ∧ (∀ a, κ a = (4, 0) → κ (ρ a 2) = (1, 0)) ∧ (∀ a, κ a = (5, 0) → κ (ρ a 0) = (9, 10)) ∧ (∀ a, κ a = (5, 0) → κ (ρ a 1) = (9, 10)) ∧ (∀ a, κ a = (5, 0) → κ (ρ a 2) = (9, 10)) ∧ (∀ a, κ a = (5, 0) → κ (ρ a 3) = (9, 10)) ∧ (∀ a, κ a = (6, 0) → κ (ρ a 0) = (10, 80)) ∧ (∀ a, κ a = (7, 0) → κ (ρ a 0) = (4, 0)) ∧ (∀ a, κ a = (7, 0) → κ (ρ a 1) = (2, 0)) ∧ (∀ a, κ a = (7, 0) → κ (ρ a 2) = (4, 0)) ∧ (∀ a, κ a = (7, 0) → κ (ρ a 4) = (6, 0)) ∧ (∀ a, κ a = (7, 0) → κ (ρ a 5) = (5, 0)) ∧ (∀ a, κ a = (7, 0) → κ (ρ a 6) = (9, 8)) ∧ (∀ a n, κ a = (11, n) → ∀ j, j < n → κ (ρ a j) = (3, 0)) ∧ (∀ a n, κ a = (12, n) → ∀ j, j < n → κ (ρ a j) = (4, 0))
theorem bz_R_0_0 {κ : Nat → Nat × Nat} {ρ : Nat → Nat → Nat} (h : bz_R κ ρ) {a : Nat} (ha : κ a = (1, 0)) : κ (ρ a 0) = (9, 10) := h.1 a ha
theorem bz_R_0_1 {κ : Nat → Nat × Nat} {ρ : Nat → Nat → Nat} (h : bz_R κ ρ) {a : Nat} (ha : κ a = (1, 0)) : κ (ρ a 1) = (9, 10) := h.2.1 a ha
theorem bz_R_0_2 {κ : Nat → Nat × Nat} {ρ : Nat → Nat → Nat} (h : bz_R κ ρ) {a : Nat} (ha : κ a = (1, 0)) : κ (ρ a 2) = (9, 10) := h.2.2.1 a ha
theorem bz_R_1_0 {κ : Nat → Nat × Nat} {ρ : Nat → Nat → Nat} (h : bz_R κ ρ) {a : Nat} (ha : κ a = (2, 0)) : κ (ρ a 0) = (12, 4) := h.2.2.2.1 a ha
theorem bz_R_2_1 {κ : Nat → Nat × Nat} {ρ : Nat → Nat → Nat} (h : bz_R κ ρ) {a : Nat} (ha : κ a = (3, 0)) : κ (ρ a 1) = (9, 7) := h.2.2.2.2.1 a ha
theorem bz_R_3_0 {κ : Nat → Nat × Nat} {ρ : Nat → Nat → Nat} (h : bz_R κ ρ) {a : Nat} (ha : κ a = (4, 0)) : κ (ρ a 0) = (11, 8) := h.2.2.2.2.2.1 a ha
theorem bz_R_3_1 {κ : Nat → Nat × Nat} {ρ : Nat → Nat → Nat} (h : bz_R κ ρ) {a : Nat} (ha : κ a = (4, 0)) : κ (ρ a 1) = (5, 0) := h.2.2.2.2.2.2.1 a ha
theorem bz_R_3_2 {κ : Nat → Nat × Nat} {ρ : Nat → Nat → Nat} (h : bz_R κ ρ) {a : Nat} (ha : κ a = (4, 0)) : κ (ρ a 2) = (1, 0) := h.2.2.2.2.2.2.2.1 a ha
theorem bz_R_4_0 {κ : Nat → Nat × Nat} {ρ : Nat → Nat → Nat} (h : bz_R κ ρ) {a : Nat} (ha : κ a = (5, 0)) : κ (ρ a 0) = (9, 10) := h.2.2.2.2.2.2.2.2.1 a ha
theorem bz_R_4_1 {κ : Nat → Nat × Nat} {ρ : Nat → Nat → Nat} (h : bz_R κ ρ) {a : Nat} (ha : κ a = (5, 0)) : κ (ρ a 1) = (9, 10) := h.2.2.2.2.2.2.2.2.2.1 a ha
theorem bz_R_4_2 {κ : Nat → Nat × Nat} {ρ : Nat → Nat → Nat} (h : bz_R κ ρ) {a : Nat} (ha : κ a = (5, 0)) : κ (ρ a 2) = (9, 10) := h.2.2.2.2.2.2.2.2.2.2.1 a ha
theorem bz_R_4_3 {κ : Nat → Nat × Nat} {ρ : Nat → Nat → Nat} (h : bz_R κ ρ) {a : Nat} (ha : κ a = (5, 0)) : κ (ρ a 3) = (9, 10) := h.2.2.2.2.2.2.2.2.2.2.2.1 a ha
theorem bz_R_5_0 {κ : Nat → Nat × Nat} {ρ : Nat → Nat → Nat} (h : bz_R κ ρ) {a : Nat} (ha : κ a = (6, 0)) : κ (ρ a 0) = (10, 80) := h.2.2.2.2.2.2.2.2.2.2.2.2.1 a ha
theorem bz_R_6_0 {κ : Nat → Nat × Nat} {ρ : Nat → Nat → Nat} (h : bz_R κ ρ) {a : Nat} (ha : κ a = (7, 0)) : κ (ρ a 0) = (4, 0) := h.2.2.2.2.2.2.2.2.2.2.2.2.2.1 a ha
theorem bz_R_6_1 {κ : Nat → Nat × Nat} {ρ : Nat → Nat → Nat} (h : bz_R κ ρ) {a : Nat} (ha : κ a = (7, 0)) : κ (ρ a 1) = (2, 0) := h.2.2.2.2.2.2.2.2.2.2.2.2.2.2.1 a ha
theorem bz_R_6_2 {κ : Nat → Nat × Nat} {ρ : Nat → Nat → Nat} (h : bz_R κ ρ) {a : Nat} (ha : κ a = (7, 0)) : κ (ρ a 2) = (4, 0) := h.2.2.2.2.2.2.2.2.2.2.2.2.2.2.2.1 a ha
theorem bz_R_6_4 {κ : Nat → Nat × Nat} {ρ : Nat → Nat → Nat} (h : bz_R κ ρ) {a : Nat} (ha : κ a = (7, 0)) : κ (ρ a 4) = (6, 0) := h.2.2.2.2.2.2.2.2.2.2.2.2.2.2.2.2.1 a ha
theorem bz_R_6_5 {κ : Nat → Nat × Nat} {ρ : Nat → Nat → Nat} (h : bz_R κ ρ) {a : Nat} (ha : κ a = (7, 0)) : κ (ρ a 5) = (5, 0) := h.2.2.2.2.2.2.2.2.2.2.2.2.2.2.2.2.2.1 a ha
theorem bz_R_6_6 {κ : Nat → Nat × Nat} {ρ : Nat → Nat → Nat} (h : bz_R κ ρ) {a : Nat} (ha : κ a = (7, 0)) : κ (ρ a 6) = (9, 8) := h.2.2.2.2.2.2.2.2.2.2.2.2.2.2.2.2.2.2.1 a ha
theorem bz_R_m {κ : Nat → Nat × Nat} {ρ : Nat → Nat → Nat} (h : bz_R κ ρ) {a n : Nat} (ha : κ a = (11, n)) {j : Nat} (hj : j < n) : κ (ρ a j) = (3, 0) := h.2.2.2.2.2.2.2.2.2.2.2.2.2.2.2.2.2.2.2.1 a n ha j hj
theorem bz_R_s {κ : Nat → Nat × Nat} {ρ : Nat → Nat → Nat} (h : bz_R κ ρ) {a n : Nat} (ha : κ a = (12, n)) {j : Nat} (hj : j < n) : κ (ρ a j) = (4, 0) := h.2.2.2.2.2.2.2.2.2.2.2.2.2.2.2.2.2.2.2.2 a n ha j hj
theorem bz_R_wr {κ : Nat → Nat × Nat} {σ : bz_W} (h : bz_R κ σ.2) {a n k r : Nat} (ha : κ a = (12, n)) (hr : κ r = (4, 0)) : bz_R κ (bz_wr σ a k r).2 := by
  have key : ∀ (b c : Nat), κ b = (c, 0) → c ≠ 12 → (bz_wr σ a k r).2 b = σ.2 b := by
    intro b c hb hc
    have : b ≠ a := by
      intro e
      subst e
      rw [hb] at ha
      exact hc (congrArg Prod.fst ha)
    simp [bz_wr, this]
  refine ⟨fun b hb => by rw [key b _ hb (by decide)]; exact bz_R_0_0 h hb, fun b hb => by rw [key b _ hb (by decide)]; exact bz_R_0_1 h hb, fun b hb => by rw [key b _ hb (by decide)]; exact bz_R_0_2 h hb, fun b hb => by rw [key b _ hb (by decide)]; exact bz_R_1_0 h hb, fun b hb => by rw [key b _ hb (by decide)]; exact bz_R_2_1 h hb, fun b hb => by rw [key b _ hb (by decide)]; exact bz_R_3_0 h hb, fun b hb => by rw [key b _ hb (by decide)]; exact bz_R_3_1 h hb, fun b hb => by rw [key b _ hb (by decide)]; exact bz_R_3_2 h hb, fun b hb => by rw [key b _ hb (by decide)]; exact bz_R_4_0 h hb, fun b hb => by rw [key b _ hb (by decide)]; exact bz_R_4_1 h hb, fun b hb => by rw [key b _ hb (by decide)]; exact bz_R_4_2 h hb, fun b hb => by rw [key b _ hb (by decide)]; exact bz_R_4_3 h hb, fun b hb => by rw [key b _ hb (by decide)]; exact bz_R_5_0 h hb, fun b hb => by rw [key b _ hb (by decide)]; exact bz_R_6_0 h hb, fun b hb => by rw [key b _ hb (by decide)]; exact bz_R_6_1 h hb, fun b hb => by rw [key b _ hb (by decide)]; exact bz_R_6_2 h hb, fun b hb => by rw [key b _ hb (by decide)]; exact bz_R_6_4 h hb, fun b hb => by rw [key b _ hb (by decide)]; exact bz_R_6_5 h hb, fun b hb => by rw [key b _ hb (by decide)]; exact bz_R_6_6 h hb, ?_, ?_⟩
  · intro b n1 hb j hj
    have : b ≠ a := by
      intro e
      subst e
      rw [hb] at ha
      have := congrArg Prod.fst ha
      simp at this
    have e : (bz_wr σ a k r).2 b = σ.2 b := by simp [bz_wr, this]
    rw [e]
    exact bz_R_m h hb hj
  · intro b n1 hb j hj
    by_cases hba : b = a
    · subst hba
      by_cases hjk : j = k
      · simpa [bz_wr, hjk] using hr
      · have e : (bz_wr σ b k r).2 b j = σ.2 b j := by simp [bz_wr, hjk]
        rw [e]
        exact bz_R_s h hb hj
    · have e : (bz_wr σ a k r).2 b = σ.2 b := by simp [bz_wr, hba]
      rw [e]
      exact bz_R_s h hb hj
def bz_N (U : State) : Prop := va_Nw (.methodLinkNest RX2 31 yX6_heatOfStart "StarterBay") U ∧ va_Nw (.methodLinkNest RX2 72 yX6_rampCurrent "StarterBay") U ∧ va_Nw (.methodLinkNest RX2 83 yX6_heatOf "StarterBay") U ∧ va_Nw (.methodLinkNest RX2 87 yX6_givenOff "StarterBay") U ∧ va_Nw (.methodLinkNest RX5 63 yX6_isOutside "StarterBay") U ∧ va_AO RX2 U ∧ va_AO RX3 U
def bz_tx : List (Nat × String) := [(75, "start"), (77, "stop"), (79, "lose"), (81, "reset"), (83, "fan")]
def bz_len : List Nat := [5, 4, 4, 5, 3]
def bz_byt : List (List Int32) := [[115, 116, 97, 114, 116], [115, 116, 111, 112], [108, 111, 115, 101], [114, 101, 115, 101, 116], [102, 97, 110]]
def bz_T (G : bz_G) (U : State) : Prop := vk_R RX5 75 "start" (bz_aK G 0) U ∧ vk_R RX5 77 "stop" (bz_aK G 1) U ∧ vk_R RX5 79 "lose" (bz_aK G 2) U ∧ vk_R RX5 81 "reset" (bz_aK G 3) U ∧ vk_R RX5 83 "fan" (bz_aK G 4) U
def bz_Z (G : bz_G) : Prop := (∀ f, va_D (bz_A G) (va_pl (bz_L G) f)) ∧ (∀ a, (bz_k G a).1 ≠ 0 → a ∈ bz_L G) ∧ (bz_k G 0).1 = 0
def bz_K (G : bz_G) (U : State) : Prop := va_K G.1 vwCl (bz_ty G) U ∧ bz_N U ∧ bz_T G U ∧ bz_Z G
def bz_S (G : bz_G) (U : State) (H : Heap) : Prop := vk_S 5 bz_len bz_byt (bz_aK G) (bz_aV G) (bz_A G) U H ∧ va_Z "java/lang/String" "COMPACT_STRINGS" "Z" (.int 1) (bz_A G) U H ∧ va_Zq "jdk/internal/util/Preconditions" "SIOOBE_FORMATTER" "Ljava/util/function/BiFunction;" (bz_A G) U H
theorem bz_S.moved {G : bz_G} {u U : State} {H : Heap} (hvm : u.vm.Alike U.vm) (h : bz_S G u H) : bz_S G U H := ⟨vk_S.moved hvm h.1, va_Z.moved hvm h.2.1, va_Zq.moved hvm h.2.2⟩
theorem bz_S.kept {G : bz_G} {U : State} {H H1 : Heap} (h : bz_S G U H) (hq : ∀ a : Nat, a < H.size → ¬ bz_A G a → H1[a]? = H[a]?) : bz_S G U H1 := ⟨h.1.kept hq, h.2.1.kept hq, h.2.2.kept hq⟩
theorem bz_N.same {u U : State} (e : u.vm = U.vm) (h : bz_N u) : bz_N U := ⟨va_Nw.same rfl e h.1, va_Nw.same rfl e h.2.1, va_Nw.same rfl e h.2.2.1, va_Nw.same rfl e h.2.2.2.1, va_Nw.same rfl e h.2.2.2.2.1, va_AO.moved (by rw [e]; exact Vm.Alike.refl _) h.2.2.2.2.2.1, va_AO.moved (by rw [e]; exact Vm.Alike.refl _) h.2.2.2.2.2.2⟩
theorem bz_N.warm {s U : State} (hW : s.WarmedH U.vm) (h : bz_N s) : bz_N U := ⟨va_Nw.warmM hW h.1, va_Nw.warmM hW h.2.1, va_Nw.warmM hW h.2.2.1, va_Nw.warmM hW h.2.2.2.1, va_Nw.warmM hW h.2.2.2.2.1, va_AO.moved hW.alike h.2.2.2.2.2.1, va_AO.moved hW.alike h.2.2.2.2.2.2⟩
theorem bz_T.same {G : bz_G} {u U : State} (e : U.vm = u.vm) (h : bz_T G u) : bz_T G U := ⟨vk_R.same e h.1, vk_R.same e h.2.1, vk_R.same e h.2.2.1, vk_R.same e h.2.2.2.1, vk_R.same e h.2.2.2.2⟩
theorem bz_T.warm {G : bz_G} {s U : State} (hW : s.WarmedH U.vm) (h : bz_T G s) : bz_T G U := ⟨vk_R.warm hW h.1, vk_R.warm hW h.2.1, vk_R.warm hW h.2.2.1, vk_R.warm hW h.2.2.2.1, vk_R.warm hW h.2.2.2.2⟩
theorem bz_K.same {G : bz_G} {u U : State} (e : U.vm = u.vm) (h : bz_K G u) : bz_K G U := ⟨va_K.moved (by rw [e]; exact Vm.Alike.refl _) h.1, bz_N.same e.symm h.2.1, bz_T.same e h.2.2.1, h.2.2.2⟩
theorem bz_K.warm {G : bz_G} {s U : State} (hW : s.WarmedH U.vm) (h : bz_K G s) : bz_K G U := ⟨va_K.moved hW.alike h.1, bz_N.warm hW h.2.1, bz_T.warm hW h.2.2.1, h.2.2.2⟩
def bz_P (G : bz_G) (σ : bz_W) (U : State) : Prop := bz_K G U ∧ bz_S G U U.heap ∧ bz_V G σ U.heap ∧ bz_R (bz_k G) σ.2
def bz_Q (G : bz_G) (σ : bz_W) (t : State) : Prop := bz_V G σ t.heap ∧ bz_R (bz_k G) σ.2
def bz_Qc (G : bz_G) (o : Option Value) (σ : bz_W) : Array Value → State → Outcome → State → Prop := fun _ st oc t => (oc = .returned o ∧ bz_Q G σ t) ∧ va_F (bz_A G) st t
/-- a contract: the memory σ becomes τ, the answer is o -/
def bz_M (l : Launch) (y : MethodName) (ws : List Cond) (fr lo : Nat) (G : bz_G) (σ : bz_W) (As : List Value) (o : Option Value) (τ : bz_W) : Prop :=
  Met l y ws ({ frames := fr, cells := 0, slots := 0, locals := lo }) (va_Pc As (bz_P G σ)) (bz_Qc G o τ) 0 0 (bz_A G)
theorem bz_blind (G : bz_G) (σ : bz_W) (As : List Value) : FrameBlind (va_Pc As (bz_P G σ)) := by
  intro a U g mk q
  obtain ⟨e, h1, h2, h3, h4⟩ := q
  exact ⟨e, bz_K.same (u := U) (U := U.calling g mk a) rfl h1, bz_S.moved (u := U) (U := U.calling g mk a) (Vm.Alike.refl U.vm) h2, h3, h4⟩
-- partial functions in their steps
def lt_ {α β : Type} (e : α) (k : α → β) : β := k e
def ck_ {α : Type} (b : Bool) (k : Option α) : Option α := match b with | true => k | false => none
def bd_ {α β : Type} (o : Option (α × bz_W)) (k : α → bz_W → Option β) : Option β := match o with | none => none | some (a, s) => k a s
def in_ (i : Int32) (n : Nat) : Bool := decide (0 ≤ i.toInt ∧ i.toInt < n)
def ib_ (v : Int32) : Bool := v == 0 || v == 1
theorem lt_u {α β : Type} {e : α} {k : α → β} {r : β} (h : lt_ e k = r) : ∀ x, x = e → k x = r := fun x hx => by rw [hx]; exact h
theorem lt_j {α β : Type} {e : α} {k : α → β} {r : β} (h : lt_ e k = r) : ∃ j, j = e ∧ k j = r := ⟨e, rfl, h⟩
theorem bz_cl {x : Int32} (n : Nat) (h : x.toInt = (n : Int)) : x.toNatClampNeg = n := by
  show x.toInt.toNat = n
  rw [h]
  rfl
theorem bz_ne {x : Int32} (n : Int) (m : Int32) (hm : m.toInt = n) (h : ¬ x = m) : x.toInt ≠ n := fun e => h (Int32.toInt_inj.mp (e.trans hm.symm))
theorem bz_out3 {x : Int32} (h0 : ¬ x = 0) (h1 : ¬ x = 1) (h2 : ¬ x = 2) : x.toInt < 0 ∨ 2 < x.toInt := by
  have := bz_ne 0 0 rfl h0
  have := bz_ne 1 1 rfl h1
  have := bz_ne 2 2 rfl h2
  omega
theorem bz_out4 {x : Int32} (h0 : ¬ x = 0) (h1 : ¬ x = 1) (h2 : ¬ x = 2) (h3 : ¬ x = 3) : x.toInt < 0 ∨ 3 < x.toInt := by
  have := bz_out3 h0 h1 h2
  have := bz_ne 3 3 rfl h3
  omega
theorem bz_out13 {x : Int32} (h0 : ¬ x = 0) (h1 : ¬ x = 1) (h2 : ¬ x = 2) (h3 : ¬ x = 3) (h4 : ¬ x = 4) (h5 : ¬ x = 5) (h6 : ¬ x = 6) (h7 : ¬ x = 7) (h8 : ¬ x = 8) (h9 : ¬ x = 9) (h10 : ¬ x = 10) (h11 : ¬ x = 11) (h12 : ¬ x = 12) : x.toInt < 0 ∨ 12 < x.toInt := by
  have := bz_out4 h0 h1 h2 h3
  have := bz_ne 4 4 rfl h4
  have := bz_ne 5 5 rfl h5
  have := bz_ne 6 6 rfl h6
  have := bz_ne 7 7 rfl h7
  have := bz_ne 8 8 rfl h8
  have := bz_ne 9 9 rfl h9
  have := bz_ne 10 10 rfl h10
  have := bz_ne 11 11 rfl h11
  have := bz_ne 12 12 rfl h12
  omega
theorem bz_out18 {x : Int32} (h0 : ¬ x = 0) (h1 : ¬ x = 1) (h2 : ¬ x = 2) (h3 : ¬ x = 3) (h4 : ¬ x = 4) (h5 : ¬ x = 5) (h6 : ¬ x = 6) (h7 : ¬ x = 7) (h8 : ¬ x = 8) (h9 : ¬ x = 9) (h10 : ¬ x = 10) (h11 : ¬ x = 11) (h12 : ¬ x = 12) (h13 : ¬ x = 13) (h14 : ¬ x = 14) (h15 : ¬ x = 15) (h16 : ¬ x = 16) (h17 : ¬ x = 17) : x.toInt < 0 ∨ 17 < x.toInt := by
  have := bz_out13 h0 h1 h2 h3 h4 h5 h6 h7 h8 h9 h10 h11 h12
  have := bz_ne 13 13 rfl h13
  have := bz_ne 14 14 rfl h14
  have := bz_ne 15 15 rfl h15
  have := bz_ne 16 16 rfl h16
  have := bz_ne 17 17 rfl h17
  omega
theorem bz_look2 {x : Int32} {a b d : Int} (h0 : ¬ x = 0) (h1 : ¬ x = 1) : Op.lookupswitch.offset [(0, a), (1, b)] d x.toInt = d := by
  have e0 := bz_ne 0 0 rfl h0
  have e1 := bz_ne 1 1 rfl h1
  simp [Op.lookupswitch.offset, e0, e1, Ne.symm e0, Ne.symm e1]
theorem ck_u {α : Type} {b : Bool} {k : Option α} {r : α} (h : ck_ b k = some r) : b = true ∧ k = some r := by
  cases b with
  | true => exact ⟨rfl, h⟩
  | false => exact absurd h (by simp [ck_])
theorem bd_u {α β : Type} {o : Option (α × bz_W)} {k : α → bz_W → Option β} {r : β} (h : bd_ o k = some r) : ∃ a s, o = some (a, s) ∧ k a s = some r := by
  match o, h with
  | some (a, s), h => exact ⟨a, s, rfl, h⟩
theorem it_t {α : Type} {c : Prop} [d : Decidable c] {a b r : α} (h : (if c then a else b) = r) (hc : c) : a = r := by rw [if_pos hc] at h; exact h
theorem it_f {α : Type} {c : Prop} [d : Decidable c] {a b r : α} (h : (if c then a else b) = r) (hc : ¬ c) : b = r := by rw [if_neg hc] at h; exact h
theorem in_u {i : Int32} {n : Nat} (h : in_ i n = true) : vp_in i n := vp_in_iff.mpr (of_decide_eq_true h)
theorem ib_u {v : Int32} (h : ib_ v = true) : narrow .boolean (.int v) = .int v ∧ fits .boolean (.int v) = true := by
  have h2 : v = 0 ∨ v = 1 := by simpa [ib_] using h
  rcases h2 with rfl | rfl <;> exact ⟨rfl, rfl⟩
theorem bz_lt {i : Int32} {n : Nat} (h : vp_in i n) : i.toNatClampNeg < n := Nat.not_le.mp fun q => h (Or.inr q)
-- the kinds
theorem bz_ne0 {G : bz_G} (hZ : bz_Z G) {a : Nat} {k : Nat × Nat} (ha : bz_k G a = k) (hk : k.1 ≠ 0) : bz_ro a = some a := by
  have : a ≠ 0 := fun e => by rw [e] at ha; exact hk (by rw [← ha]; exact hZ.2.2)
  simp [bz_ro, this]
theorem bz_rv0 {G : bz_G} (hZ : bz_Z G) {a : Nat} {k : Nat × Nat} (ha : bz_k G a = k) (hk : k.1 ≠ 0) : bz_rv a = .ref a := by
  show va_rf _ = _
  rw [bz_ne0 hZ ha hk]
  rfl
theorem bz_V.at {G : bz_G} {σ : bz_W} {H : Heap} (hZ : bz_Z G) (h : bz_V G σ H) {a : Nat} {k : Nat × Nat} (ha : bz_k G a = k) (hk : k.1 ≠ 0) {e : va_E} (he : bz_cE (bz_cy G) k (σ.1 a) (σ.2 a) = e) : ∃ i : Nat, (va_pl (bz_L G) (bz_F G σ))[i]? = some (a, e) := by
  have hm : a ∈ bz_L G := hZ.2.1 a (by rw [ha]; exact hk)
  obtain ⟨i, hi⟩ := va_pl_get (X := []) (f := bz_F G σ) hm
  refine ⟨i, ?_⟩
  rw [List.nil_append] at hi
  rw [hi]
  unfold bz_F
  rw [ha, he]
theorem bz_V.put {G : bz_G} {σ τ : bz_W} {a i : Nat} {e e1 : va_E} (hZ : bz_Z G) {k : Nat × Nat} (ha : bz_k G a = k) (hk : k.1 ≠ 0) (he : bz_cE (bz_cy G) k (σ.1 a) (σ.2 a) = e) (hi : (va_pl (bz_L G) (bz_F G σ))[i]? = some (a, e)) (h1 : ∀ b, b ≠ a → τ.1 b = σ.1 b ∧ τ.2 b = σ.2 b) (h2 : bz_cE (bz_cy G) k (τ.1 a) (τ.2 a) = e1) : (va_pl (bz_L G) (bz_F G σ)).set i (a, e1) = va_pl (bz_L G) (bz_F G τ) := by
  have hm : a ∈ bz_L G := hZ.2.1 a (by rw [ha]; exact hk)
  have hi' : (([] : va_W) ++ va_pl (bz_L G) (bz_F G σ))[i]? = some (a, bz_F G σ a) := by
    rw [List.nil_append, hi]
    unfold bz_F
    rw [ha, he]
  have h3 := va_pl_set (A := bz_A G) (X := []) (e := e1) (by rw [List.nil_append]; exact hZ.1 _) hm hi'
  rw [List.nil_append, List.nil_append] at h3
  rw [h3]
  refine va_pl_congr fun b => ?_
  by_cases hb : b = a
  · subst hb
    rw [va_up_self]
    unfold bz_F
    rw [ha, h2]
  · rw [va_up_ne _ _ hb]
    unfold bz_F
    rw [(h1 b hb).1, (h1 b hb).2]
theorem bz_wi_o {σ : bz_W} {a k : Nat} {v : Int32} : ∀ b, b ≠ a → (bz_wi σ a k v).1 b = σ.1 b ∧ (bz_wi σ a k v).2 b = σ.2 b := fun b hb => ⟨by simp [bz_wi, hb], rfl⟩
theorem bz_wi_s {σ : bz_W} {a k : Nat} {v : Int32} : (bz_wi σ a k v).1 a = upd (σ.1 a) k v := by simp [bz_wi]
theorem bz_wr_o {σ : bz_W} {a k r : Nat} : ∀ b, b ≠ a → (bz_wr σ a k r).1 b = σ.1 b ∧ (bz_wr σ a k r).2 b = σ.2 b := fun b hb => ⟨rfl, by simp [bz_wr, hb]⟩
theorem bz_wb_o {σ : bz_W} {a : Nat} {f : Nat → Int32} : ∀ b, b ≠ a → (bz_wb σ a f).1 b = σ.1 b ∧ (bz_wb σ a f).2 b = σ.2 b := fun b hb => ⟨by simp [bz_wb, hb], rfl⟩
-- what a method has at hand, and what it has at a point
def bz_C (p : Program) (s : State) (m : MethodId) (c : Code) (args : Array Value) (cc : ByteArray) (nL : Nat) (own : String) (Ts : List Cond) (G : bz_G) : Prop :=
  p.tables.exec = Jvm.exec ∧ c.code = cc ∧ c.maxLocals = nL ∧ s.vm.findClass own = some m.cls ∧ (∀ w ∈ Ts, w.before args s = true) ∧ bz_K G s ∧ bz_S G s s.heap
def bz_H (G : bz_G) (s : State) (σ : bz_W) (H : Heap) (locs : List Loc) : Prop := bz_V G σ H ∧ bz_R (bz_k G) σ.2 ∧ va_S (bz_A G) s.heap H locs

section BZ
variable {p : Program} {l : Launch} {e : Env} {R : Room} {s : State} {m : MethodId} {args : Array Value} {below : List Frame} {meth : Method} {c : Code} {H : Heap} {locs : List Loc} {cells slots : Nat} {Q : State → Prop}
variable {cc : ByteArray} {nL pc : Nat} {ls : Array Slot} {rest : List Value} {own : String} {Ts : List Cond} {G : bz_G} {σ : bz_W}
theorem bz_get (C : bz_C p s m c args cc nL own Ts G) (h : bz_H G s σ H locs) {a : Nat} {kd : Nat × Nat} (ha : bz_k G a = kd) (hk0 : kd.1 ≠ 0) {ci : Nat} {fs : List Value} (he : bz_cE (bz_cy G) kd (σ.1 a) (σ.2 a) = .inr (ci, fs)) {Cn : String} {T : u_T} {N index : Nat} (hc : vwCl[ci]? = some (Cn, T, N)) (k : Nat) (hk : k < N) (hin : ∀ w ∈ u_ws Cn T N, w ∈ Ts) (hlink : Cond.fieldLink own index (T k).1 (T k).2.1 (T k).2.2.1 ∈ Ts) {v : Value} (hv : fs[k]? = some v) (hdg : decode cc pc = .ok (.getfield index, 3))
    (kk : W p l e R s m args below meth c H locs cells slots Q (F0 m (pc + 3) ls (v :: rest))) : W p l e R s m args below meth c H locs cells slots Q (F0 m pc ls (.ref a :: rest)) := by
  obtain ⟨hx, hb, -, hown, hts, hK, -⟩ := C
  obtain ⟨i, hi⟩ := h.1.at hK.2.2.2 ha hk0 he
  exact va_get hx hb hts hin hown hK.1 h.1 i hi hc k hk (hts _ hlink) (fun x h => h) hv hdg kk
theorem bz_put (C : bz_C p s m c args cc nL own Ts G) (h : bz_H G s σ H locs) {a : Nat} {kd : Nat × Nat} (ha : bz_k G a = kd) (hk0 : kd.1 ≠ 0) {ci : Nat} {fs : List Value} (he : bz_cE (bz_cy G) kd (σ.1 a) (σ.2 a) = .inr (ci, fs)) {Cn : String} {T : u_T} {N index : Nat} (hc : vwCl[ci]? = some (Cn, T, N)) (k : Nat) (hk : k < N) (hin : ∀ w ∈ u_ws Cn T N, w ∈ Ts) (ty0 : Nat → FieldType) (hty : ∀ k, k < N → parseFieldDescriptor (T k).2.2.1 = some (ty0 k)) (hnm : ∀ a, a < N → ∀ b, b < N → a ≠ b → (T a).2.1 ≠ (T b).2.1) (hlink : Cond.fieldLink own index (T k).1 (T k).2.1 (T k).2.2.1 ∈ Ts) (hfin : (T k).2.2.2 = false) {v : Int32} (hn : narrow (ty0 k) (.int v) = .int v) (hfit : fits (ty0 k) (.int v) = true) (hl : k < fs.length)
    (h2 : bz_cE (bz_cy G) kd (upd (σ.1 a) k v) (σ.2 a) = .inr (ci, fs.set k (.int v))) (hdg : decode cc pc = .ok (.putfield index, 3))
    (kk : ∀ (H1 : Heap) (locs1 : List Loc), bz_H G s (bz_wi σ a k v) H1 locs1 → W p l e R s m args below meth c H1 locs1 cells slots Q (F0 m (pc + 3) ls rest)) : W p l e R s m args below meth c H locs cells slots Q (F0 m pc ls (.int v :: .ref a :: rest)) := by
  obtain ⟨hx, hb, -, hown, hts, hK, -⟩ := C
  obtain ⟨i, hi⟩ := h.1.at hK.2.2.2 ha hk0 he
  refine va_put hx hb hts hin ty0 hty hnm hown hK.1 h.1 (hK.2.2.2.1 _) h.2.2 i hi hc k hk (hts _ hlink) (fun x h => h) hfin (hty k hk) hn hfit hl hdg fun H1 locs1 hP _ hS => kk H1 locs1 ⟨?_, h.2.1, hS⟩
  rw [bz_V.put (τ := bz_wi σ a k v) hK.2.2.2 ha hk0 he hi bz_wi_o (by rw [bz_wi_s]; exact h2)] at hP
  exact hP
theorem bz_iald (C : bz_C p s m c args cc nL own Ts G) (h : bz_H G s σ H locs) {a n : Nat} (ha : bz_k G a = (9, n)) {i : Int32} (hin : in_ i n = true) {kx : Nat} (hkx : i.toNatClampNeg = kx) (hdg : decode cc pc = .ok (.iaload, 1))
    (kk : W p l e R s m args below meth c H locs cells slots Q (F0 m (pc + 1) ls (.int (σ.1 a kx) :: rest))) : W p l e R s m args below meth c H locs cells slots Q (F0 m pc ls (.int i :: .ref a :: rest)) := by
  subst hkx
  obtain ⟨hx, hb, -, hown, hts, hK, -⟩ := C
  obtain ⟨j, hj⟩ := h.1.at hK.2.2.2 ha (by simp) (e := .inl (bz_cy G 0, n, .inl (σ.1 a))) rfl
  exact va_iald hx hb hK.1 h.1 j 0 hj rfl (in_u hin) hdg kk
theorem bz_cald (C : bz_C p s m c args cc nL own Ts G) (h : bz_H G s σ H locs) {a n : Nat} (ha : bz_k G a = (10, n)) {i : Int32} (hin : in_ i n = true) {kx : Nat} (hkx : i.toNatClampNeg = kx) (hdg : decode cc pc = .ok (.caload, 1))
    (kk : W p l e R s m args below meth c H locs cells slots Q (F0 m (pc + 1) ls (.int (σ.1 a kx) :: rest))) : W p l e R s m args below meth c H locs cells slots Q (F0 m pc ls (.int i :: .ref a :: rest)) := by
  subst hkx
  obtain ⟨hx, hb, -, hown, hts, hK, -⟩ := C
  obtain ⟨j, hj⟩ := h.1.at hK.2.2.2 ha (by simp) (e := .inl (bz_cy G 1, n, .inl (σ.1 a))) rfl
  exact va_cald hx hb hK.1 h.1 j 1 hj rfl (in_u hin) hdg kk
theorem bz_iast (C : bz_C p s m c args cc nL own Ts G) (h : bz_H G s σ H locs) {a n : Nat} (ha : bz_k G a = (9, n)) {i x : Int32} (hin : in_ i n = true) {kx : Nat} (hkx : i.toNatClampNeg = kx) (hdg : decode cc pc = .ok (.iastore, 1))
    (kk : ∀ (H1 : Heap) (locs1 : List Loc), bz_H G s (bz_wi σ a kx x) H1 locs1 → W p l e R s m args below meth c H1 locs1 cells slots Q (F0 m (pc + 1) ls rest)) : W p l e R s m args below meth c H locs cells slots Q (F0 m pc ls (.int x :: .int i :: .ref a :: rest)) := by
  subst hkx
  obtain ⟨hx, hb, -, hown, hts, hK, -⟩ := C
  obtain ⟨j, hj⟩ := h.1.at hK.2.2.2 ha (by simp) (e := .inl (bz_cy G 0, n, .inl (σ.1 a))) rfl
  refine va_iast hx hb hK.1 h.1 (hK.2.2.2.1 _) h.2.2 j 0 hj rfl (in_u hin) hdg fun H1 locs1 hP _ hS => kk H1 locs1 ⟨?_, h.2.1, hS⟩
  rw [bz_V.put (τ := bz_wi σ a i.toNatClampNeg x) hK.2.2.2 ha (by simp) rfl hj bz_wi_o (by rw [bz_wi_s]; rfl)] at hP
  exact hP
theorem bz_cast (C : bz_C p s m c args cc nL own Ts G) (h : bz_H G s σ H locs) {a n : Nat} (ha : bz_k G a = (10, n)) {i x : Int32} (hin : in_ i n = true) {kx : Nat} (hkx : i.toNatClampNeg = kx) (hdg : decode cc pc = .ok (.castore, 1))
    (kk : ∀ (H1 : Heap) (locs1 : List Loc), bz_H G s (bz_wi σ a kx (vp_nar .char x)) H1 locs1 → W p l e R s m args below meth c H1 locs1 cells slots Q (F0 m (pc + 1) ls rest)) : W p l e R s m args below meth c H locs cells slots Q (F0 m pc ls (.int x :: .int i :: .ref a :: rest)) := by
  subst hkx
  obtain ⟨hx, hb, -, hown, hts, hK, -⟩ := C
  obtain ⟨j, hj⟩ := h.1.at hK.2.2.2 ha (by simp) (e := .inl (bz_cy G 1, n, .inl (σ.1 a))) rfl
  refine va_cast hx hb hK.1 h.1 (hK.2.2.2.1 _) h.2.2 j 1 hj rfl (in_u hin) hdg fun H1 locs1 hP _ hS => kk H1 locs1 ⟨?_, h.2.1, hS⟩
  rw [bz_V.put (τ := bz_wi σ a i.toNatClampNeg (vp_nar .char x)) hK.2.2.2 ha (by simp) rfl hj bz_wi_o (by rw [bz_wi_s]; rfl)] at hP
  exact hP
theorem bz_aaldm (C : bz_C p s m c args cc nL own Ts G) (h : bz_H G s σ H locs) {a n : Nat} (ha : bz_k G a = (11, n)) {i : Int32} (hin : in_ i n = true) {kx : Nat} (hkx : i.toNatClampNeg = kx) (hdg : decode cc pc = .ok (.aaload, 1))
    (kk : bz_k G (σ.2 a kx) = (3, 0) → W p l e R s m args below meth c H locs cells slots Q (F0 m (pc + 1) ls (.ref (σ.2 a kx) :: rest))) : W p l e R s m args below meth c H locs cells slots Q (F0 m pc ls (.int i :: .ref a :: rest)) := by
  subst hkx
  obtain ⟨hx, hb, -, hown, hts, hK, -⟩ := C
  obtain ⟨j, hj⟩ := h.1.at hK.2.2.2 ha (by simp) (e := .inl (bz_cy G 2, n, .inr (.inr (.inr (.inr (fun j => bz_ro (σ.2 a j))))))) rfl
  have hk := bz_R_m h.2.1 ha (bz_lt (in_u hin))
  refine va_aldq (C := RX2) hx hb hK.1 h.1 j 2 hj rfl (in_u hin) hdg ?_
  have e1 : va_rf (bz_ro (σ.2 a i.toNatClampNeg)) = .ref (σ.2 a i.toNatClampNeg) := bz_rv0 hK.2.2.2 hk (by decide)
  rw [e1]
  exact kk hk
theorem bz_aalds (C : bz_C p s m c args cc nL own Ts G) (h : bz_H G s σ H locs) {a n : Nat} (ha : bz_k G a = (12, n)) {i : Int32} (hin : in_ i n = true) {kx : Nat} (hkx : i.toNatClampNeg = kx) (hdg : decode cc pc = .ok (.aaload, 1))
    (kk : bz_k G (σ.2 a kx) = (4, 0) → W p l e R s m args below meth c H locs cells slots Q (F0 m (pc + 1) ls (.ref (σ.2 a kx) :: rest))) : W p l e R s m args below meth c H locs cells slots Q (F0 m pc ls (.int i :: .ref a :: rest)) := by
  subst hkx
  obtain ⟨hx, hb, -, hown, hts, hK, -⟩ := C
  obtain ⟨j, hj⟩ := h.1.at hK.2.2.2 ha (by simp) (e := .inl (bz_cy G 3, n, .inr (.inr (.inr (.inr (fun j => bz_ro (σ.2 a j))))))) rfl
  have hk := bz_R_s h.2.1 ha (bz_lt (in_u hin))
  refine va_aldq (C := RX3) hx hb hK.1 h.1 j 3 hj rfl (in_u hin) hdg ?_
  have e1 : va_rf (bz_ro (σ.2 a i.toNatClampNeg)) = .ref (σ.2 a i.toNatClampNeg) := bz_rv0 hK.2.2.2 hk (by decide)
  rw [e1]
  exact kk hk
theorem bz_aasts (C : bz_C p s m c args cc nL own Ts G) (h : bz_H G s σ H locs) {a n r : Nat} (ha : bz_k G a = (12, n)) (hr : bz_k G r = (4, 0)) {i : Int32} (hin : in_ i n = true) {kx : Nat} (hkx : i.toNatClampNeg = kx) (hdg : decode cc pc = .ok (.aastore, 1))
    (kk : ∀ (H1 : Heap) (locs1 : List Loc), bz_H G s (bz_wr σ a kx r) H1 locs1 → W p l e R s m args below meth c H1 locs1 cells slots Q (F0 m (pc + 1) ls rest)) : W p l e R s m args below meth c H locs cells slots Q (F0 m pc ls (.ref r :: .int i :: .ref a :: rest)) := by
  subst hkx
  obtain ⟨hx, hb, -, hown, hts, hK, -⟩ := C
  obtain ⟨j, hj⟩ := h.1.at hK.2.2.2 ha (by simp) (e := .inl (bz_cy G 3, n, .inr (.inr (.inr (.inr (fun j => bz_ro (σ.2 a j))))))) rfl
  obtain ⟨j2, hj2⟩ := h.1.at hK.2.2.2 hr (by simp) rfl
  refine va_astq (ci := 3) (r := (RX3, TX3, 8)) hx hb hK.1 h.1 (hK.2.2.2.1 _) h.2.2 j 3 j2 hj rfl hj2 rfl (in_u hin) hdg fun H1 locs1 hP _ hS => kk H1 locs1 ⟨?_, bz_R_wr h.2.1 ha hr, hS⟩
  rw [bz_V.put (τ := bz_wr σ a i.toNatClampNeg r) hK.2.2.2 ha (by simp) rfl hj bz_wr_o ?_] at hP
  · exact hP
  · have e1 := bz_ne0 hK.2.2.2 hr (by decide)
    have e2 : (fun q => bz_ro ((bz_wr σ a i.toNatClampNeg r).2 a q)) = va_up (fun q => bz_ro (σ.2 a q)) i.toNatClampNeg (some r) := by
      funext q
      by_cases hq : q = i.toNatClampNeg
      · simp [bz_wr, va_up, e1, hq]
      · simp [bz_wr, va_up, hq]
    show (Sum.inl (bz_cy G 3, n, .inr (.inr (.inr (.inr (fun q => bz_ro ((bz_wr σ a i.toNatClampNeg r).2 a q)))))) : va_E) = _
    rw [e2]
theorem bz_copy (C : bz_C p s m c args cc nL own Ts G) (h : bz_H G s σ H locs) {a a0 N : Nat} (ha0 : bz_k G a0 = (9, N)) (ha : bz_k G a = (9, N)) {index : Nat} (hls : ls.size = nL) (hlink : Cond.methodLink own index arraycopyName ∈ Ts) (hnat : Cond.native arraycopyName ∈ Ts) (hstat : Cond.static arraycopyName ∈ Ts) (hini : Cond.initialized "java/lang/System" ∈ Ts) {n : Int32} (hn : ¬ n < 0) (hN : n.toNatClampNeg = N) (hframes : 1 ≤ R.frames) (hlocals : (rest.map fun v => v.category).sum + (nativeFrameWords "java/lang/System" "arraycopy" 5 + 11) ≤ R.locals) (hdg : decode cc pc = .ok (.invokestatic index, 3))
    (kk : ∀ (H1 : Heap) (locs1 : List Loc), bz_H G s (bz_wb σ a (va_cpy (σ.1 a0) (σ.1 a) 0 0 N)) H1 locs1 → W p l e R s m args below meth c H1 locs1 cells slots Q (F0 m (pc + 3) ls rest)) : W p l e R s m args below meth c H locs cells slots Q (F0 m pc ls (.int n :: .int 0 :: .ref a :: .int 0 :: .ref a0 :: rest)) := by
  obtain ⟨hx, hb, hml, hown, hts, hK, -⟩ := C
  subst hN
  obtain ⟨j0, hj0⟩ := h.1.at hK.2.2.2 ha0 (by simp) (e := .inl (bz_cy G 0, n.toNatClampNeg, .inl (σ.1 a0))) rfl
  obtain ⟨j, hj⟩ := h.1.at hK.2.2.2 ha (by simp) (e := .inl (bz_cy G 0, n.toNatClampNeg, .inl (σ.1 a))) rfl
  refine va_copyi hx hb (hml.trans hls.symm) hown (hts _ hlink) (hts _ hnat) (hts _ hstat) (hts _ hini) hK.1 h.1 (hK.2.2.2.1 _) h.2.2 j0 j 0 0 hj0 hj rfl rfl rfl (by decide) (by decide) hn (by rw [show (0 : Int32).toNatClampNeg = 0 from rfl]; omega) (by rw [show (0 : Int32).toNatClampNeg = 0 from rfl]; omega) (fun _ _ => rfl) hframes hlocals hdg fun H1 locs1 hP _ hS => kk H1 locs1 ⟨?_, h.2.1, hS⟩
  rw [bz_V.put (τ := bz_wb σ a (va_cpy (σ.1 a0) (σ.1 a) 0 0 n.toNatClampNeg)) hK.2.2.2 ha (by simp) rfl hj bz_wb_o (by simp [bz_wb]; rfl)] at hP
  exact hP
theorem bz_recv (C : bz_C p s m c args cc nL own Ts G) (h : bz_H G s σ H locs) {b ci : Nat} {q : vw_C} (hcl : vwCl[ci]? = some q) (hb : bz_k G b = (ci + 1, 0)) (hci : ci < 7) : ∃ cell : Cell, H[b]? = some cell ∧ cell.vm.isStatics = false ∧ s.vm.findClass q.1 = some cell.cls := by
  obtain ⟨hx, -, hml, hown, hts, hK, -⟩ := C
  have he : ∃ fs, bz_cE (bz_cy G) (ci + 1, 0) (σ.1 b) (σ.2 b) = .inr (ci, fs) := by
    rcases (show ci = 0 ∨ ci = 1 ∨ ci = 2 ∨ ci = 3 ∨ ci = 4 ∨ ci = 5 ∨ ci = 6 by omega) with rfl | rfl | rfl | rfl | rfl | rfl | rfl <;> exact ⟨_, rfl⟩
  obtain ⟨fs, he⟩ := he
  obtain ⟨j, hj⟩ := h.1.at hK.2.2.2 hb (by simp) he
  exact va_recv hK.1 h.1 hcl hj
theorem bz_pre (C : bz_C p s m c args cc nL own Ts G) (h : bz_H G s σ H locs) (As : List Value) : ∀ U : State, U.heap = H → s.WarmedH U.vm → va_Pc As (bz_P G σ) As.toArray U := by
  intro U hU hW
  refine ⟨rfl, bz_K.warm hW C.2.2.2.2.2.1, ?_, ?_, h.2.1⟩
  · rw [hU]
    exact bz_S.moved hW.alike (bz_S.kept C.2.2.2.2.2.2 h.2.2.2.1)
  · rw [hU]
    exact h.1
theorem bz_back (h : bz_H G s σ H locs) {mc ms : Nat} {g : JFrame} {rest st1 : List Value} {o : Option Value} {τ : bz_W} {a : Array Value} {ls' : Array Slot} {pc' : Nat} {st0 : List Value} (hr : va_Run p l e R s m args below meth c H locs cells slots 0 0 (F0 m pc ls st0) rest (bz_Qc G o τ a) (bz_A G)) (h1 : o.toList ++ rest = st1) (kk : ∀ (H1 : Heap) (locs1 : List Loc), bz_H G s τ H1 locs1 → W p l e R s m args below meth c H1 locs1 cells slots Q (F0 m (pc + 3) ls st1)) : W p l e R s m args below meth c H locs cells slots Q (F0 m pc ls st0) := by
  intro T hT X
  obtain ⟨v, st₀, t, T', L, h0, X', hL, e1, e2, ⟨⟨hv, hq⟩, hz, hk⟩, st⟩ := hr T hT X
  obtain rfl : v = o := by cases hv; rfl
  rw [h0] at hz hk
  have hS := h.2.2
  subst h1
  obtain ⟨t2, a1, b1⟩ := kk T'.heap (locs ++ L) ⟨by unfold bz_V; rw [e1]; exact hq.1, hq.2, Nat.le_trans hS.1 (by rw [e1]; exact hz), fun q h1 h2 => by rw [e1, hk q (Nat.lt_of_lt_of_le h1 hS.1) h2]; exact hS.2.1 q h1 h2, fun q hq => by
      rcases List.mem_append.mp hq with h | h
      · exact hS.2.2 q h
      · exact hL q h⟩ T' rfl X'
  exact ⟨t2, st t2 a1, b1⟩
theorem bz_callV (C : bz_C p s m c args cc nL own Ts G) (h : bz_H G s σ H locs) {y : MethodName} {ws : List Cond} {fr lo b ci n index maxL : Nat} {As : List Value} {o : Option Value} {τ : bz_W} {q : vw_C} {bytes : ByteArray} {ret : Option FieldType} (hM : bz_M l y ws fr lo G σ (.ref b :: As) o τ) (hb : bz_k G b = (ci + 1, 0)) (hci : ci < 7) (hcl : vwCl[ci]? = some q) (cw : CallW R s args own q.1 index y bytes maxL ret ws ({ frames := fr, cells := 0, slots := 0, locals := lo }) 0 0 n) (hn : As.length = n) (hls : ls.size = nL) {st0 st1 : List Value} (hst : st0 = As.reverse ++ .ref b :: rest) (hW : (rest.map fun v => v.category).sum ≤ 8) (hf : cells ≤ R.cells ∧ slots ≤ R.slots) (hdg : decode cc pc = .ok (.invokevirtual index, 3)) (h1 : o.toList ++ rest = st1)
    (kk : ∀ (H1 : Heap) (locs1 : List Loc), bz_H G s τ H1 locs1 → W p l e R s m args below meth c H1 locs1 cells slots Q (F0 m (pc + 3) ls st1)) : W p l e R s m args below meth c H locs cells slots Q (F0 m pc ls st0) := by
  have hr := va_runV (p := p) (e := e) (below := below) (meth := meth) (c := c) (H := H) (locs := locs) (cells := cells) (slots := slots) (g := F0 m pc ls st0) (rest := rest) (S := ⟨C.1, C.2.1, C.2.2.1, C.2.2.2.1, C.2.2.2.2.1⟩) hM cw ⟨bz_blind G σ _, bz_recv C h hcl hb hci, bz_pre C h _⟩ rfl hn hls hst (by show 2 * 0 + _ ≤ 8; omega) hdg hf
  exact bz_back (mc := 0) (ms := 0) (g := F0 m pc ls st0) (ls' := ls) (pc' := pc) h hr h1 kk
theorem bz_callS (C : bz_C p s m c args cc nL own Ts G) (h : bz_H G s σ H locs) {y : MethodName} {ws : List Cond} {fr lo n index maxL : Nat} {As : List Value} {o : Option Value} {τ : bz_W} {bytes : ByteArray} {ret : Option FieldType} (hM : bz_M l y ws fr lo G σ As o τ) (cw : CallB R s args own index y bytes maxL ret ws ({ frames := fr, cells := 0, slots := 0, locals := lo }) 0 0 n ∧ (Cond.static y).before args s = true) (hn : As.length = n) (hls : ls.size = nL) {st0 st1 : List Value} (hst : st0 = As.reverse ++ rest) (hW : (rest.map fun v => v.category).sum ≤ 8) (hf : cells ≤ R.cells ∧ slots ≤ R.slots) (hdg : decode cc pc = .ok (.invokestatic index, 3)) (h1 : o.toList ++ rest = st1)
    (kk : ∀ (H1 : Heap) (locs1 : List Loc), bz_H G s τ H1 locs1 → W p l e R s m args below meth c H1 locs1 cells slots Q (F0 m (pc + 3) ls st1)) : W p l e R s m args below meth c H locs cells slots Q (F0 m pc ls st0) := by
  have hr := va_runS (p := p) (e := e) (below := below) (meth := meth) (c := c) (H := H) (locs := locs) (cells := cells) (slots := slots) (g := F0 m pc ls st0) (rest := rest) (S := ⟨C.1, C.2.1, C.2.2.1, C.2.2.2.1, C.2.2.2.2.1⟩) hM cw ⟨bz_blind G σ _, bz_pre C h _⟩ rfl hn hls hst (by show 2 * 0 + _ ≤ 8; omega) hdg hf
  exact bz_back (mc := 0) (ms := 0) (g := F0 m pc ls st0) (ls' := ls) (pc' := pc) h hr h1 kk
theorem bz_callN (C : bz_C p s m c args cc nL own Ts G) (h : bz_H G s σ H locs) {y : MethodName} {ws : List Cond} {fr lo n index maxL : Nat} {As : List Value} {o : Option Value} {τ : bz_W} {bytes : ByteArray} {ret : Option FieldType} {host : String} (hM : bz_M l y ws fr lo G σ As o τ) (cw : va_CN R s args own index y host bytes maxL ret ws ({ frames := fr, cells := 0, slots := 0, locals := lo }) 0 0 n ∧ (Cond.static y).before args s = true ∧ True) (hn : As.length = n) (hls : ls.size = nL) {st0 st1 : List Value} (hst : st0 = As.reverse ++ rest) (hW : (rest.map fun v => v.category).sum ≤ 8) (hf : cells ≤ R.cells ∧ slots ≤ R.slots) (hdg : decode cc pc = .ok (.invokestatic index, 3)) (h1 : o.toList ++ rest = st1)
    (kk : ∀ (H1 : Heap) (locs1 : List Loc), bz_H G s τ H1 locs1 → W p l e R s m args below meth c H1 locs1 cells slots Q (F0 m (pc + 3) ls st1)) : W p l e R s m args below meth c H locs cells slots Q (F0 m pc ls st0) := by
  have hr := va_runSN (p := p) (e := e) (below := below) (meth := meth) (c := c) (H := H) (locs := locs) (cells := cells) (slots := slots) (g := F0 m pc ls st0) (rest := rest) (S := ⟨C.1, C.2.1, C.2.2.1, C.2.2.2.1, C.2.2.2.2.1⟩) hM cw ⟨bz_blind G σ _, bz_pre C h _⟩ rfl hn hls hst (by show 2 * 0 + _ ≤ 8; omega) hdg hf
  exact bz_back (mc := 0) (ms := 0) (g := F0 m pc ls st0) (ls' := ls) (pc' := pc) h hr h1 kk
theorem bz_callT (C : bz_C p s m c args cc nL own Ts G) (h : bz_H G s σ H locs) {y : MethodName} {ws : List Cond} {fr lo i n index maxL : Nat} {As : List Value} {o : Option Value} {τ : bz_W} {bytes : ByteArray} {ret : Option FieldType} (hM : bz_M l y ws fr lo G σ (.ref (bz_aK G i) :: As) o τ) (hi : i < 5) (cw : CallW R s args own RJ0 index y bytes maxL ret ws ({ frames := fr, cells := 0, slots := 0, locals := lo }) 0 0 n) (hn : As.length = n) (hls : ls.size = nL) {st0 st1 : List Value} (hst : st0 = As.reverse ++ .ref (bz_aK G i) :: rest) (hW : (rest.map fun v => v.category).sum ≤ 8) (hf : cells ≤ R.cells ∧ slots ≤ R.slots) (hdg : decode cc pc = .ok (.invokevirtual index, 3)) (h1 : o.toList ++ rest = st1)
    (kk : ∀ (H1 : Heap) (locs1 : List Loc), bz_H G s τ H1 locs1 → W p l e R s m args below meth c H1 locs1 cells slots Q (F0 m (pc + 3) ls st1)) : W p l e R s m args below meth c H locs cells slots Q (F0 m pc ls st0) := by
  have hr := va_runV (p := p) (e := e) (below := below) (meth := meth) (c := c) (H := H) (locs := locs) (cells := cells) (slots := slots) (g := F0 m pc ls st0) (rest := rest) (S := ⟨C.1, C.2.1, C.2.2.1, C.2.2.2.1, C.2.2.2.2.1⟩) hM cw ⟨bz_blind G σ _, vk_recv C.2.2.2.2.2.2.1 hi h.2.2, bz_pre C h _⟩ rfl hn hls hst (by show 2 * 0 + _ ≤ 8; omega) hdg hf
  exact bz_back (mc := 0) (ms := 0) (g := F0 m pc ls st0) (ls' := ls) (pc' := pc) h hr h1 kk
theorem bz_endq (h : bz_H G s σ H locs) {o : Option Value} : ∀ t : State, t.heap = H → s.WarmedH t.vm → bz_Qc G o σ args s (.returned o) t :=
  fun t ht _ => ⟨⟨rfl, by unfold bz_V; rw [ht]; exact h.1, h.2.1⟩, h.2.2.F ht⟩
theorem bz_endf (h : bz_H G s σ H locs) : ∀ q ∈ locs, bz_A G q.base := h.2.2.2.2
theorem bz_iret (C : bz_C p s m c args cc nL own Ts G) (h : bz_H G s σ H locs) (hlocks : meth.locks = false) (hr : meth.sig.returnType = some .int) {v : Int32} {res : Int32 × bz_W} (hF : some (v, σ) = some res) (hdg : decode cc pc = .ok (.ireturn, 1)) : W p l e R s m args below meth c H locs cells slots (MQ below (bz_Qc G (some (.int res.1)) res.2) args s cells slots (bz_A G)) (F0 m pc ls [.int v]) := by
  obtain rfl := Option.some.inj hF
  exact W.iret C.1 C.2.1 hr (bz_endq h) (bz_endf h) hdg hlocks
theorem bz_zret (C : bz_C p s m c args cc nL own Ts G) (h : bz_H G s σ H locs) (hlocks : meth.locks = false) {ty : FieldType} (hr : meth.sig.returnType = some ty) {v : Int32} (hn : narrow ty (.int v) = .int v) {res : Int32 × bz_W} (hF : some (v, σ) = some res) (hdg : decode cc pc = .ok (.ireturn, 1)) : W p l e R s m args below meth c H locs cells slots (MQ below (bz_Qc G (some (.int res.1)) res.2) args s cells slots (bz_A G)) (F0 m pc ls [.int v]) := by
  obtain rfl := Option.some.inj hF
  exact W.zret C.1 C.2.1 hr hn (bz_endq h) (bz_endf h) hdg hlocks
theorem bz_vret (C : bz_C p s m c args cc nL own Ts G) (h : bz_H G s σ H locs) (hlocks : meth.locks = false) (hr : meth.sig.returnType = none) {v : Int32} {res : Int32 × bz_W} (hF : some (v, σ) = some res) (hdg : decode cc pc = .ok (.return_, 1)) : W p l e R s m args below meth c H locs cells slots (MQ below (bz_Qc G none res.2) args s cells slots (bz_A G)) (F0 m pc ls []) := by
  obtain rfl := Option.some.inj hF
  exact W.vret C.1 C.2.1 hr (bz_endq h) (bz_endf h) hdg hlocks
theorem bz_aret (C : bz_C p s m c args cc nL own Ts G) (h : bz_H G s σ H locs) (hlocks : meth.locks = false) {n : String} (hr : meth.sig.returnType = some (.object n)) {w : Value} {v : Nat} (hw : w = bz_rv v) {res : Nat × bz_W} (hF : some (v, σ) = some res) (hdg : decode cc pc = .ok (.areturn, 1)) : W p l e R s m args below meth c H locs cells slots (MQ below (bz_Qc G (some (bz_rv res.1)) res.2) args s cells slots (bz_A G)) (F0 m pc ls [w]) := by
  obtain rfl := Option.some.inj hF
  subst hw
  exact W.aret C.1 C.2.1 hr (Or.inl ⟨n, rfl⟩) (va_rf_or _) (bz_endq h) (bz_endf h) hdg hlocks
theorem bz_sret (C : bz_C p s m c args cc nL own Ts G) (h : bz_H G s σ H locs) (hlocks : meth.locks = false) {n : String} (hr : meth.sig.returnType = some (.object n)) {v : Nat} {res : Nat × bz_W} (hF : some (v, σ) = some res) (hdg : decode cc pc = .ok (.areturn, 1)) : W p l e R s m args below meth c H locs cells slots (MQ below (bz_Qc G (some (.ref (bz_aK G res.1))) res.2) args s cells slots (bz_A G)) (F0 m pc ls [.ref (bz_aK G v)]) := by
  obtain rfl := Option.some.inj hF
  exact W.aret C.1 C.2.1 hr (Or.inl ⟨n, rfl⟩) (Or.inr ⟨_, rfl⟩) (bz_endq h) (bz_endf h) hdg hlocks
end BZ
theorem bz_mk {l : Launch} {y : MethodName} {ws ws' : List Cond} {fr lo maxL : Nat} {G : bz_G} {σ τ : bz_W} {As : List Value} {o : Option Value} {cc : ByteArray} {ret : Option FieldType} {own : String} (hy : plainName y.cls = true) (hw : ws = Cond.code y cc maxL ret :: ws') (hown : y.cls = own) (hlen : (lg_sl As).length ≤ maxL) (body : ∀ (p : Program) (e : Env) (s : State) (m : MethodId) (args : Array Value) (below : List Frame) (meth : Method) (c : Code) (ls : Array Slot), bz_C p s m c args cc maxL own ws G → meth.locks = false → meth.sig.returnType = ret → bz_H G s σ s.heap [] → lv_has ls maxL (lv_args 0 As) → W p l e ({ frames := fr, cells := 0, slots := 0, locals := lo } : Room) s m args below meth c s.heap [] 0 0 (MQ below (bz_Qc G o τ) args s 0 0 (bz_A G)) (F0 m 0 ls [])) : bz_M l y ws fr lo G σ As o τ := by
  refine Met.ofW (cc := cc) (maxL := maxL) (ret := ret) hy hw ?_
  intro p e s m args below meth c s₁ B hml hv
  obtain ⟨rfl, h1, h2, h3, h4⟩ := hv
  have hts := atoms_spec (ws := ws) B.pre
  have hown' : s.vm.findClass own = some m.cls := by
    rw [← hown]
    exact findClass_of_methodNamed B.named
  have hl := lv_entry As (n := maxL) hlen
  rw [lg_entry_eq]
  exact body p e s m _ below meth c _ ⟨B.exec, B.bytes, hml, hown', hts, h1, h2⟩ B.notSynchronized B.returns ⟨h3, h4, va_S.rf⟩ hl

theorem iz_X0 {c : Cond} : ∀ w ∈ wsX00, w ∈ c :: wsL_law := fun w h => List.mem_cons_of_mem _ (bp_X0 w h)
theorem iz_X1 {c : Cond} : ∀ w ∈ wsX10, w ∈ c :: wsL_law := fun w h => List.mem_cons_of_mem _ (bp_X1 w h)
theorem iz_X2 {c : Cond} : ∀ w ∈ wsX20, w ∈ c :: wsL_law := fun w h => List.mem_cons_of_mem _ (bp_X2 w h)
theorem iz_X3 {c : Cond} : ∀ w ∈ wsX30, w ∈ c :: wsL_law := fun w h => List.mem_cons_of_mem _ (bp_X3 w h)
theorem iz_X4 {c : Cond} : ∀ w ∈ wsX40, w ∈ c :: wsL_law := fun w h => List.mem_cons_of_mem _ (bp_X4 w h)
theorem iz_X5 {c : Cond} : ∀ w ∈ wsX50, w ∈ c :: wsL_law := fun w h => List.mem_cons_of_mem _ (bp_X5 w h)
theorem iz_X6 {c : Cond} : ∀ w ∈ wsX60, w ∈ c :: wsL_law := fun w h => List.mem_cons_of_mem _ (bp_X6 w h)
theorem bz_gV {own : String} {idx : Nat} {Cn : String} {y : MethodName} {c0 c1 : Cond} (h1 : Cond.methodLink own idx y ∈ wsL_law) (h2 : Cond.instanceMethod y ∈ wsL_law) (h3 : Cond.selects Cn y y ∈ wsL_law) (h4 : Cond.initialized Cn ∈ wsL_law) (h5 : c1 ∈ wsL_law) : GoodIn (c0 :: wsL_law) (wsV own idx Cn y (c1 :: wsL_law)) := by
  intro w hw
  have h : w ∈ wsL_law := by
    simp only [wsV, List.mem_append, List.mem_cons, List.not_mem_nil, or_false] at hw
    rcases hw with (rfl | rfl | rfl | rfl) | rfl | h <;> assumption
  exact ⟨List.mem_cons_of_mem _ h, bz_B_good w h⟩
theorem bz_gS {own : String} {idx : Nat} {y : MethodName} {c0 c1 : Cond} (h1 : Cond.methodLink own idx y ∈ wsL_law) (h2 : Cond.static y ∈ wsL_law) (h4 : Cond.initialized y.cls ∈ wsL_law) (h5 : c1 ∈ wsL_law) : GoodIn (c0 :: wsL_law) (va_wsS own idx y (c1 :: wsL_law)) := by
  intro w hw
  have h : w ∈ wsL_law := by
    simp only [va_wsS, List.mem_append, List.mem_cons, List.not_mem_nil, or_false] at hw
    rcases hw with (rfl | rfl | rfl) | rfl | h <;> assumption
  exact ⟨List.mem_cons_of_mem _ h, bz_B_good w h⟩
theorem bz_g0 {c0 c1 : Cond} (h5 : c1 ∈ wsL_law) : GoodIn (c0 :: wsL_law) (c1 :: wsL_law) := by
  intro w hw
  have h : w ∈ wsL_law := by
    rcases List.mem_cons.mp hw with rfl | h <;> assumption
  exact ⟨List.mem_cons_of_mem _ h, bz_B_good w h⟩
section BF
variable {p : Program} {l : Launch} {e : Env} {R : Room} {s : State} {m : MethodId} {args : Array Value} {below : List Frame} {meth : Method} {c : Code} {H : Heap} {locs : List Loc} {cells slots : Nat} {Q : State → Prop}
variable {cc : ByteArray} {nL pc : Nat} {ls : Array Slot} {rest : List Value} {own : String} {Ts : List Cond} {G : bz_G} {σ : bz_W}
theorem gf_0_0 {a index : Nat} (C : bz_C p s m c args cc nL own Ts G) (h : bz_H G s σ H locs) (ha : bz_k G a = (1, 0)) (hin : ∀ w ∈ wsX00, w ∈ Ts) (hl : Cond.fieldLink own index "StarterBay$EventLog" "time" "[I" ∈ Ts) (hdg : decode cc pc = .ok (.getfield index, 3)) (kk : bz_k G (σ.2 a 0) = (9, 10) → W p l e R s m args below meth c H locs cells slots Q (F0 m (pc + 3) ls (.ref (σ.2 a 0) :: rest))) : W p l e R s m args below meth c H locs cells slots Q (F0 m pc ls (.ref a :: rest)) := by
  have hk := bz_R_0_0 h.2.1 ha
  refine bz_get C h ha (by decide) (ci := 0) (fs := [bz_rv (σ.2 a 0), bz_rv (σ.2 a 1), bz_rv (σ.2 a 2), .int (σ.1 a 3)]) rfl rfl 0 (by decide) hin hl (v := bz_rv (σ.2 a 0)) rfl hdg ?_
  have e1 := bz_rv0 C.2.2.2.2.2.1.2.2.2 hk (by decide)
  rw [e1]
  exact kk hk
theorem gf_0_1 {a index : Nat} (C : bz_C p s m c args cc nL own Ts G) (h : bz_H G s σ H locs) (ha : bz_k G a = (1, 0)) (hin : ∀ w ∈ wsX00, w ∈ Ts) (hl : Cond.fieldLink own index "StarterBay$EventLog" "motor" "[I" ∈ Ts) (hdg : decode cc pc = .ok (.getfield index, 3)) (kk : bz_k G (σ.2 a 1) = (9, 10) → W p l e R s m args below meth c H locs cells slots Q (F0 m (pc + 3) ls (.ref (σ.2 a 1) :: rest))) : W p l e R s m args below meth c H locs cells slots Q (F0 m pc ls (.ref a :: rest)) := by
  have hk := bz_R_0_1 h.2.1 ha
  refine bz_get C h ha (by decide) (ci := 0) (fs := [bz_rv (σ.2 a 0), bz_rv (σ.2 a 1), bz_rv (σ.2 a 2), .int (σ.1 a 3)]) rfl rfl 1 (by decide) hin hl (v := bz_rv (σ.2 a 1)) rfl hdg ?_
  have e1 := bz_rv0 C.2.2.2.2.2.1.2.2.2 hk (by decide)
  rw [e1]
  exact kk hk
theorem gf_0_2 {a index : Nat} (C : bz_C p s m c args cc nL own Ts G) (h : bz_H G s σ H locs) (ha : bz_k G a = (1, 0)) (hin : ∀ w ∈ wsX00, w ∈ Ts) (hl : Cond.fieldLink own index "StarterBay$EventLog" "kind" "[I" ∈ Ts) (hdg : decode cc pc = .ok (.getfield index, 3)) (kk : bz_k G (σ.2 a 2) = (9, 10) → W p l e R s m args below meth c H locs cells slots Q (F0 m (pc + 3) ls (.ref (σ.2 a 2) :: rest))) : W p l e R s m args below meth c H locs cells slots Q (F0 m pc ls (.ref a :: rest)) := by
  have hk := bz_R_0_2 h.2.1 ha
  refine bz_get C h ha (by decide) (ci := 0) (fs := [bz_rv (σ.2 a 0), bz_rv (σ.2 a 1), bz_rv (σ.2 a 2), .int (σ.1 a 3)]) rfl rfl 2 (by decide) hin hl (v := bz_rv (σ.2 a 2)) rfl hdg ?_
  have e1 := bz_rv0 C.2.2.2.2.2.1.2.2.2 hk (by decide)
  rw [e1]
  exact kk hk
theorem gf_0_3 {a index : Nat} (C : bz_C p s m c args cc nL own Ts G) (h : bz_H G s σ H locs) (ha : bz_k G a = (1, 0)) (hin : ∀ w ∈ wsX00, w ∈ Ts) (hl : Cond.fieldLink own index "StarterBay$EventLog" "total" "I" ∈ Ts) (hdg : decode cc pc = .ok (.getfield index, 3)) (kk : W p l e R s m args below meth c H locs cells slots Q (F0 m (pc + 3) ls (.int (σ.1 a 3) :: rest))) : W p l e R s m args below meth c H locs cells slots Q (F0 m pc ls (.ref a :: rest)) :=
  bz_get C h ha (by decide) (ci := 0) (fs := [bz_rv (σ.2 a 0), bz_rv (σ.2 a 1), bz_rv (σ.2 a 2), .int (σ.1 a 3)]) rfl rfl 3 (by decide) hin hl (v := .int (σ.1 a 3)) rfl hdg kk
theorem pf_0_3 {a index : Nat} (C : bz_C p s m c args cc nL own Ts G) (h : bz_H G s σ H locs) (ha : bz_k G a = (1, 0)) (hin : ∀ w ∈ wsX00, w ∈ Ts) (hl : Cond.fieldLink own index "StarterBay$EventLog" "total" "I" ∈ Ts) {v : Int32} (hdg : decode cc pc = .ok (.putfield index, 3)) (kk : ∀ (H1 : Heap) (locs1 : List Loc), bz_H G s (bz_wi σ a 3 v) H1 locs1 → W p l e R s m args below meth c H1 locs1 cells slots Q (F0 m (pc + 3) ls rest)) : W p l e R s m args below meth c H locs cells slots Q (F0 m pc ls (.int v :: .ref a :: rest)) :=
  bz_put C h ha (by decide) (ci := 0) (fs := [bz_rv (σ.2 a 0), bz_rv (σ.2 a 1), bz_rv (σ.2 a 2), .int (σ.1 a 3)]) rfl rfl 3 (by decide) hin tyX0 tyX0_ok nmX0 hl rfl rfl rfl (by simp) (by first | rfl | simp [bz_cE, upd]) hdg kk
theorem gf_1_0 {a index : Nat} (C : bz_C p s m c args cc nL own Ts G) (h : bz_H G s σ H locs) (ha : bz_k G a = (2, 0)) (hin : ∀ w ∈ wsX10, w ∈ Ts) (hl : Cond.fieldLink own index "StarterBay$History" "states" "[LStarterBay$State;" ∈ Ts) (hdg : decode cc pc = .ok (.getfield index, 3)) (kk : bz_k G (σ.2 a 0) = (12, 4) → W p l e R s m args below meth c H locs cells slots Q (F0 m (pc + 3) ls (.ref (σ.2 a 0) :: rest))) : W p l e R s m args below meth c H locs cells slots Q (F0 m pc ls (.ref a :: rest)) := by
  have hk := bz_R_1_0 h.2.1 ha
  refine bz_get C h ha (by decide) (ci := 1) (fs := [bz_rv (σ.2 a 0), .int (σ.1 a 1)]) rfl rfl 0 (by decide) hin hl (v := bz_rv (σ.2 a 0)) rfl hdg ?_
  have e1 := bz_rv0 C.2.2.2.2.2.1.2.2.2 hk (by decide)
  rw [e1]
  exact kk hk
theorem gf_1_1 {a index : Nat} (C : bz_C p s m c args cc nL own Ts G) (h : bz_H G s σ H locs) (ha : bz_k G a = (2, 0)) (hin : ∀ w ∈ wsX10, w ∈ Ts) (hl : Cond.fieldLink own index "StarterBay$History" "size" "I" ∈ Ts) (hdg : decode cc pc = .ok (.getfield index, 3)) (kk : W p l e R s m args below meth c H locs cells slots Q (F0 m (pc + 3) ls (.int (σ.1 a 1) :: rest))) : W p l e R s m args below meth c H locs cells slots Q (F0 m pc ls (.ref a :: rest)) :=
  bz_get C h ha (by decide) (ci := 1) (fs := [bz_rv (σ.2 a 0), .int (σ.1 a 1)]) rfl rfl 1 (by decide) hin hl (v := .int (σ.1 a 1)) rfl hdg kk
theorem pf_1_1 {a index : Nat} (C : bz_C p s m c args cc nL own Ts G) (h : bz_H G s σ H locs) (ha : bz_k G a = (2, 0)) (hin : ∀ w ∈ wsX10, w ∈ Ts) (hl : Cond.fieldLink own index "StarterBay$History" "size" "I" ∈ Ts) {v : Int32} (hdg : decode cc pc = .ok (.putfield index, 3)) (kk : ∀ (H1 : Heap) (locs1 : List Loc), bz_H G s (bz_wi σ a 1 v) H1 locs1 → W p l e R s m args below meth c H1 locs1 cells slots Q (F0 m (pc + 3) ls rest)) : W p l e R s m args below meth c H locs cells slots Q (F0 m pc ls (.int v :: .ref a :: rest)) :=
  bz_put C h ha (by decide) (ci := 1) (fs := [bz_rv (σ.2 a 0), .int (σ.1 a 1)]) rfl rfl 1 (by decide) hin tyX1 tyX1_ok nmX1 hl rfl rfl rfl (by simp) (by first | rfl | simp [bz_cE, upd]) hdg kk
theorem gf_2_0 {a index : Nat} (C : bz_C p s m c args cc nL own Ts G) (h : bz_H G s σ H locs) (ha : bz_k G a = (3, 0)) (hin : ∀ w ∈ wsX20, w ∈ Ts) (hl : Cond.fieldLink own index "StarterBay$Motor" "number" "I" ∈ Ts) (hdg : decode cc pc = .ok (.getfield index, 3)) (kk : W p l e R s m args below meth c H locs cells slots Q (F0 m (pc + 3) ls (.int (σ.1 a 0) :: rest))) : W p l e R s m args below meth c H locs cells slots Q (F0 m pc ls (.ref a :: rest)) :=
  bz_get C h ha (by decide) (ci := 2) (fs := [.int (σ.1 a 0), bz_rv (σ.2 a 1), .int (σ.1 a 2), .int (σ.1 a 3), .int (σ.1 a 4), .int (σ.1 a 5), .int (σ.1 a 6), .int (σ.1 a 7), .int (σ.1 a 8), .int (σ.1 a 9), .int (σ.1 a 10), .int (σ.1 a 11), .int (σ.1 a 12), .int (σ.1 a 13), .int (σ.1 a 14)]) rfl rfl 0 (by decide) hin hl (v := .int (σ.1 a 0)) rfl hdg kk
theorem gf_2_1 {a index : Nat} (C : bz_C p s m c args cc nL own Ts G) (h : bz_H G s σ H locs) (ha : bz_k G a = (3, 0)) (hin : ∀ w ∈ wsX20, w ∈ Ts) (hl : Cond.fieldLink own index "StarterBay$Motor" "accounts" "[I" ∈ Ts) (hdg : decode cc pc = .ok (.getfield index, 3)) (kk : bz_k G (σ.2 a 1) = (9, 7) → W p l e R s m args below meth c H locs cells slots Q (F0 m (pc + 3) ls (.ref (σ.2 a 1) :: rest))) : W p l e R s m args below meth c H locs cells slots Q (F0 m pc ls (.ref a :: rest)) := by
  have hk := bz_R_2_1 h.2.1 ha
  refine bz_get C h ha (by decide) (ci := 2) (fs := [.int (σ.1 a 0), bz_rv (σ.2 a 1), .int (σ.1 a 2), .int (σ.1 a 3), .int (σ.1 a 4), .int (σ.1 a 5), .int (σ.1 a 6), .int (σ.1 a 7), .int (σ.1 a 8), .int (σ.1 a 9), .int (σ.1 a 10), .int (σ.1 a 11), .int (σ.1 a 12), .int (σ.1 a 13), .int (σ.1 a 14)]) rfl rfl 1 (by decide) hin hl (v := bz_rv (σ.2 a 1)) rfl hdg ?_
  have e1 := bz_rv0 C.2.2.2.2.2.1.2.2.2 hk (by decide)
  rw [e1]
  exact kk hk
theorem gf_2_2 {a index : Nat} (C : bz_C p s m c args cc nL own Ts G) (h : bz_H G s σ H locs) (ha : bz_k G a = (3, 0)) (hin : ∀ w ∈ wsX20, w ∈ Ts) (hl : Cond.fieldLink own index "StarterBay$Motor" "rated" "I" ∈ Ts) (hdg : decode cc pc = .ok (.getfield index, 3)) (kk : W p l e R s m args below meth c H locs cells slots Q (F0 m (pc + 3) ls (.int (σ.1 a 2) :: rest))) : W p l e R s m args below meth c H locs cells slots Q (F0 m pc ls (.ref a :: rest)) :=
  bz_get C h ha (by decide) (ci := 2) (fs := [.int (σ.1 a 0), bz_rv (σ.2 a 1), .int (σ.1 a 2), .int (σ.1 a 3), .int (σ.1 a 4), .int (σ.1 a 5), .int (σ.1 a 6), .int (σ.1 a 7), .int (σ.1 a 8), .int (σ.1 a 9), .int (σ.1 a 10), .int (σ.1 a 11), .int (σ.1 a 12), .int (σ.1 a 13), .int (σ.1 a 14)]) rfl rfl 2 (by decide) hin hl (v := .int (σ.1 a 2)) rfl hdg kk
theorem pf_2_2 {a index : Nat} (C : bz_C p s m c args cc nL own Ts G) (h : bz_H G s σ H locs) (ha : bz_k G a = (3, 0)) (hin : ∀ w ∈ wsX20, w ∈ Ts) (hl : Cond.fieldLink own index "StarterBay$Motor" "rated" "I" ∈ Ts) {v : Int32} (hdg : decode cc pc = .ok (.putfield index, 3)) (kk : ∀ (H1 : Heap) (locs1 : List Loc), bz_H G s (bz_wi σ a 2 v) H1 locs1 → W p l e R s m args below meth c H1 locs1 cells slots Q (F0 m (pc + 3) ls rest)) : W p l e R s m args below meth c H locs cells slots Q (F0 m pc ls (.int v :: .ref a :: rest)) :=
  bz_put C h ha (by decide) (ci := 2) (fs := [.int (σ.1 a 0), bz_rv (σ.2 a 1), .int (σ.1 a 2), .int (σ.1 a 3), .int (σ.1 a 4), .int (σ.1 a 5), .int (σ.1 a 6), .int (σ.1 a 7), .int (σ.1 a 8), .int (σ.1 a 9), .int (σ.1 a 10), .int (σ.1 a 11), .int (σ.1 a 12), .int (σ.1 a 13), .int (σ.1 a 14)]) rfl rfl 2 (by decide) hin tyX2 tyX2_ok nmX2 hl rfl rfl rfl (by simp) (by first | rfl | simp [bz_cE, upd]) hdg kk
theorem gf_2_3 {a index : Nat} (C : bz_C p s m c args cc nL own Ts G) (h : bz_H G s σ H locs) (ha : bz_k G a = (3, 0)) (hin : ∀ w ∈ wsX20, w ∈ Ts) (hl : Cond.fieldLink own index "StarterBay$Motor" "ramp" "I" ∈ Ts) (hdg : decode cc pc = .ok (.getfield index, 3)) (kk : W p l e R s m args below meth c H locs cells slots Q (F0 m (pc + 3) ls (.int (σ.1 a 3) :: rest))) : W p l e R s m args below meth c H locs cells slots Q (F0 m pc ls (.ref a :: rest)) :=
  bz_get C h ha (by decide) (ci := 2) (fs := [.int (σ.1 a 0), bz_rv (σ.2 a 1), .int (σ.1 a 2), .int (σ.1 a 3), .int (σ.1 a 4), .int (σ.1 a 5), .int (σ.1 a 6), .int (σ.1 a 7), .int (σ.1 a 8), .int (σ.1 a 9), .int (σ.1 a 10), .int (σ.1 a 11), .int (σ.1 a 12), .int (σ.1 a 13), .int (σ.1 a 14)]) rfl rfl 3 (by decide) hin hl (v := .int (σ.1 a 3)) rfl hdg kk
theorem pf_2_3 {a index : Nat} (C : bz_C p s m c args cc nL own Ts G) (h : bz_H G s σ H locs) (ha : bz_k G a = (3, 0)) (hin : ∀ w ∈ wsX20, w ∈ Ts) (hl : Cond.fieldLink own index "StarterBay$Motor" "ramp" "I" ∈ Ts) {v : Int32} (hdg : decode cc pc = .ok (.putfield index, 3)) (kk : ∀ (H1 : Heap) (locs1 : List Loc), bz_H G s (bz_wi σ a 3 v) H1 locs1 → W p l e R s m args below meth c H1 locs1 cells slots Q (F0 m (pc + 3) ls rest)) : W p l e R s m args below meth c H locs cells slots Q (F0 m pc ls (.int v :: .ref a :: rest)) :=
  bz_put C h ha (by decide) (ci := 2) (fs := [.int (σ.1 a 0), bz_rv (σ.2 a 1), .int (σ.1 a 2), .int (σ.1 a 3), .int (σ.1 a 4), .int (σ.1 a 5), .int (σ.1 a 6), .int (σ.1 a 7), .int (σ.1 a 8), .int (σ.1 a 9), .int (σ.1 a 10), .int (σ.1 a 11), .int (σ.1 a 12), .int (σ.1 a 13), .int (σ.1 a 14)]) rfl rfl 3 (by decide) hin tyX2 tyX2_ok nmX2 hl rfl rfl rfl (by simp) (by first | rfl | simp [bz_cE, upd]) hdg kk
theorem gf_2_4 {a index : Nat} (C : bz_C p s m c args cc nL own Ts G) (h : bz_H G s σ H locs) (ha : bz_k G a = (3, 0)) (hin : ∀ w ∈ wsX20, w ∈ Ts) (hl : Cond.fieldLink own index "StarterBay$Motor" "factor" "I" ∈ Ts) (hdg : decode cc pc = .ok (.getfield index, 3)) (kk : W p l e R s m args below meth c H locs cells slots Q (F0 m (pc + 3) ls (.int (σ.1 a 4) :: rest))) : W p l e R s m args below meth c H locs cells slots Q (F0 m pc ls (.ref a :: rest)) :=
  bz_get C h ha (by decide) (ci := 2) (fs := [.int (σ.1 a 0), bz_rv (σ.2 a 1), .int (σ.1 a 2), .int (σ.1 a 3), .int (σ.1 a 4), .int (σ.1 a 5), .int (σ.1 a 6), .int (σ.1 a 7), .int (σ.1 a 8), .int (σ.1 a 9), .int (σ.1 a 10), .int (σ.1 a 11), .int (σ.1 a 12), .int (σ.1 a 13), .int (σ.1 a 14)]) rfl rfl 4 (by decide) hin hl (v := .int (σ.1 a 4)) rfl hdg kk
theorem pf_2_4 {a index : Nat} (C : bz_C p s m c args cc nL own Ts G) (h : bz_H G s σ H locs) (ha : bz_k G a = (3, 0)) (hin : ∀ w ∈ wsX20, w ∈ Ts) (hl : Cond.fieldLink own index "StarterBay$Motor" "factor" "I" ∈ Ts) {v : Int32} (hdg : decode cc pc = .ok (.putfield index, 3)) (kk : ∀ (H1 : Heap) (locs1 : List Loc), bz_H G s (bz_wi σ a 4 v) H1 locs1 → W p l e R s m args below meth c H1 locs1 cells slots Q (F0 m (pc + 3) ls rest)) : W p l e R s m args below meth c H locs cells slots Q (F0 m pc ls (.int v :: .ref a :: rest)) :=
  bz_put C h ha (by decide) (ci := 2) (fs := [.int (σ.1 a 0), bz_rv (σ.2 a 1), .int (σ.1 a 2), .int (σ.1 a 3), .int (σ.1 a 4), .int (σ.1 a 5), .int (σ.1 a 6), .int (σ.1 a 7), .int (σ.1 a 8), .int (σ.1 a 9), .int (σ.1 a 10), .int (σ.1 a 11), .int (σ.1 a 12), .int (σ.1 a 13), .int (σ.1 a 14)]) rfl rfl 4 (by decide) hin tyX2 tyX2_ok nmX2 hl rfl rfl rfl (by simp) (by first | rfl | simp [bz_cE, upd]) hdg kk
theorem gf_2_5 {a index : Nat} (C : bz_C p s m c args cc nL own Ts G) (h : bz_H G s σ H locs) (ha : bz_k G a = (3, 0)) (hin : ∀ w ∈ wsX20, w ∈ Ts) (hl : Cond.fieldLink own index "StarterBay$Motor" "limit" "I" ∈ Ts) (hdg : decode cc pc = .ok (.getfield index, 3)) (kk : W p l e R s m args below meth c H locs cells slots Q (F0 m (pc + 3) ls (.int (σ.1 a 5) :: rest))) : W p l e R s m args below meth c H locs cells slots Q (F0 m pc ls (.ref a :: rest)) :=
  bz_get C h ha (by decide) (ci := 2) (fs := [.int (σ.1 a 0), bz_rv (σ.2 a 1), .int (σ.1 a 2), .int (σ.1 a 3), .int (σ.1 a 4), .int (σ.1 a 5), .int (σ.1 a 6), .int (σ.1 a 7), .int (σ.1 a 8), .int (σ.1 a 9), .int (σ.1 a 10), .int (σ.1 a 11), .int (σ.1 a 12), .int (σ.1 a 13), .int (σ.1 a 14)]) rfl rfl 5 (by decide) hin hl (v := .int (σ.1 a 5)) rfl hdg kk
theorem pf_2_5 {a index : Nat} (C : bz_C p s m c args cc nL own Ts G) (h : bz_H G s σ H locs) (ha : bz_k G a = (3, 0)) (hin : ∀ w ∈ wsX20, w ∈ Ts) (hl : Cond.fieldLink own index "StarterBay$Motor" "limit" "I" ∈ Ts) {v : Int32} (hdg : decode cc pc = .ok (.putfield index, 3)) (kk : ∀ (H1 : Heap) (locs1 : List Loc), bz_H G s (bz_wi σ a 5 v) H1 locs1 → W p l e R s m args below meth c H1 locs1 cells slots Q (F0 m (pc + 3) ls rest)) : W p l e R s m args below meth c H locs cells slots Q (F0 m pc ls (.int v :: .ref a :: rest)) :=
  bz_put C h ha (by decide) (ci := 2) (fs := [.int (σ.1 a 0), bz_rv (σ.2 a 1), .int (σ.1 a 2), .int (σ.1 a 3), .int (σ.1 a 4), .int (σ.1 a 5), .int (σ.1 a 6), .int (σ.1 a 7), .int (σ.1 a 8), .int (σ.1 a 9), .int (σ.1 a 10), .int (σ.1 a 11), .int (σ.1 a 12), .int (σ.1 a 13), .int (σ.1 a 14)]) rfl rfl 5 (by decide) hin tyX2 tyX2_ok nmX2 hl rfl rfl rfl (by simp) (by first | rfl | simp [bz_cE, upd]) hdg kk
theorem gf_2_6 {a index : Nat} (C : bz_C p s m c args cc nL own Ts G) (h : bz_H G s σ H locs) (ha : bz_k G a = (3, 0)) (hin : ∀ w ∈ wsX20, w ∈ Ts) (hl : Cond.fieldLink own index "StarterBay$Motor" "heatToStart" "I" ∈ Ts) (hdg : decode cc pc = .ok (.getfield index, 3)) (kk : W p l e R s m args below meth c H locs cells slots Q (F0 m (pc + 3) ls (.int (σ.1 a 6) :: rest))) : W p l e R s m args below meth c H locs cells slots Q (F0 m pc ls (.ref a :: rest)) :=
  bz_get C h ha (by decide) (ci := 2) (fs := [.int (σ.1 a 0), bz_rv (σ.2 a 1), .int (σ.1 a 2), .int (σ.1 a 3), .int (σ.1 a 4), .int (σ.1 a 5), .int (σ.1 a 6), .int (σ.1 a 7), .int (σ.1 a 8), .int (σ.1 a 9), .int (σ.1 a 10), .int (σ.1 a 11), .int (σ.1 a 12), .int (σ.1 a 13), .int (σ.1 a 14)]) rfl rfl 6 (by decide) hin hl (v := .int (σ.1 a 6)) rfl hdg kk
theorem pf_2_6 {a index : Nat} (C : bz_C p s m c args cc nL own Ts G) (h : bz_H G s σ H locs) (ha : bz_k G a = (3, 0)) (hin : ∀ w ∈ wsX20, w ∈ Ts) (hl : Cond.fieldLink own index "StarterBay$Motor" "heatToStart" "I" ∈ Ts) {v : Int32} (hdg : decode cc pc = .ok (.putfield index, 3)) (kk : ∀ (H1 : Heap) (locs1 : List Loc), bz_H G s (bz_wi σ a 6 v) H1 locs1 → W p l e R s m args below meth c H1 locs1 cells slots Q (F0 m (pc + 3) ls rest)) : W p l e R s m args below meth c H locs cells slots Q (F0 m pc ls (.int v :: .ref a :: rest)) :=
  bz_put C h ha (by decide) (ci := 2) (fs := [.int (σ.1 a 0), bz_rv (σ.2 a 1), .int (σ.1 a 2), .int (σ.1 a 3), .int (σ.1 a 4), .int (σ.1 a 5), .int (σ.1 a 6), .int (σ.1 a 7), .int (σ.1 a 8), .int (σ.1 a 9), .int (σ.1 a 10), .int (σ.1 a 11), .int (σ.1 a 12), .int (σ.1 a 13), .int (σ.1 a 14)]) rfl rfl 6 (by decide) hin tyX2 tyX2_ok nmX2 hl rfl rfl rfl (by simp) (by first | rfl | simp [bz_cE, upd]) hdg kk
theorem gf_2_7 {a index : Nat} (C : bz_C p s m c args cc nL own Ts G) (h : bz_H G s σ H locs) (ha : bz_k G a = (3, 0)) (hin : ∀ w ∈ wsX20, w ∈ Ts) (hl : Cond.fieldLink own index "StarterBay$Motor" "need" "I" ∈ Ts) (hdg : decode cc pc = .ok (.getfield index, 3)) (kk : W p l e R s m args below meth c H locs cells slots Q (F0 m (pc + 3) ls (.int (σ.1 a 7) :: rest))) : W p l e R s m args below meth c H locs cells slots Q (F0 m pc ls (.ref a :: rest)) :=
  bz_get C h ha (by decide) (ci := 2) (fs := [.int (σ.1 a 0), bz_rv (σ.2 a 1), .int (σ.1 a 2), .int (σ.1 a 3), .int (σ.1 a 4), .int (σ.1 a 5), .int (σ.1 a 6), .int (σ.1 a 7), .int (σ.1 a 8), .int (σ.1 a 9), .int (σ.1 a 10), .int (σ.1 a 11), .int (σ.1 a 12), .int (σ.1 a 13), .int (σ.1 a 14)]) rfl rfl 7 (by decide) hin hl (v := .int (σ.1 a 7)) rfl hdg kk
theorem pf_2_7 {a index : Nat} (C : bz_C p s m c args cc nL own Ts G) (h : bz_H G s σ H locs) (ha : bz_k G a = (3, 0)) (hin : ∀ w ∈ wsX20, w ∈ Ts) (hl : Cond.fieldLink own index "StarterBay$Motor" "need" "I" ∈ Ts) {v : Int32} (hdg : decode cc pc = .ok (.putfield index, 3)) (kk : ∀ (H1 : Heap) (locs1 : List Loc), bz_H G s (bz_wi σ a 7 v) H1 locs1 → W p l e R s m args below meth c H1 locs1 cells slots Q (F0 m (pc + 3) ls rest)) : W p l e R s m args below meth c H locs cells slots Q (F0 m pc ls (.int v :: .ref a :: rest)) :=
  bz_put C h ha (by decide) (ci := 2) (fs := [.int (σ.1 a 0), bz_rv (σ.2 a 1), .int (σ.1 a 2), .int (σ.1 a 3), .int (σ.1 a 4), .int (σ.1 a 5), .int (σ.1 a 6), .int (σ.1 a 7), .int (σ.1 a 8), .int (σ.1 a 9), .int (σ.1 a 10), .int (σ.1 a 11), .int (σ.1 a 12), .int (σ.1 a 13), .int (σ.1 a 14)]) rfl rfl 7 (by decide) hin tyX2 tyX2_ok nmX2 hl rfl rfl rfl (by simp) (by first | rfl | simp [bz_cE, upd]) hdg kk
theorem gf_2_8 {a index : Nat} (C : bz_C p s m c args cc nL own Ts G) (h : bz_H G s σ H locs) (ha : bz_k G a = (3, 0)) (hin : ∀ w ∈ wsX20, w ∈ Ts) (hl : Cond.fieldLink own index "StarterBay$Motor" "mode" "I" ∈ Ts) (hdg : decode cc pc = .ok (.getfield index, 3)) (kk : W p l e R s m args below meth c H locs cells slots Q (F0 m (pc + 3) ls (.int (σ.1 a 8) :: rest))) : W p l e R s m args below meth c H locs cells slots Q (F0 m pc ls (.ref a :: rest)) :=
  bz_get C h ha (by decide) (ci := 2) (fs := [.int (σ.1 a 0), bz_rv (σ.2 a 1), .int (σ.1 a 2), .int (σ.1 a 3), .int (σ.1 a 4), .int (σ.1 a 5), .int (σ.1 a 6), .int (σ.1 a 7), .int (σ.1 a 8), .int (σ.1 a 9), .int (σ.1 a 10), .int (σ.1 a 11), .int (σ.1 a 12), .int (σ.1 a 13), .int (σ.1 a 14)]) rfl rfl 8 (by decide) hin hl (v := .int (σ.1 a 8)) rfl hdg kk
theorem pf_2_8 {a index : Nat} (C : bz_C p s m c args cc nL own Ts G) (h : bz_H G s σ H locs) (ha : bz_k G a = (3, 0)) (hin : ∀ w ∈ wsX20, w ∈ Ts) (hl : Cond.fieldLink own index "StarterBay$Motor" "mode" "I" ∈ Ts) {v : Int32} (hdg : decode cc pc = .ok (.putfield index, 3)) (kk : ∀ (H1 : Heap) (locs1 : List Loc), bz_H G s (bz_wi σ a 8 v) H1 locs1 → W p l e R s m args below meth c H1 locs1 cells slots Q (F0 m (pc + 3) ls rest)) : W p l e R s m args below meth c H locs cells slots Q (F0 m pc ls (.int v :: .ref a :: rest)) :=
  bz_put C h ha (by decide) (ci := 2) (fs := [.int (σ.1 a 0), bz_rv (σ.2 a 1), .int (σ.1 a 2), .int (σ.1 a 3), .int (σ.1 a 4), .int (σ.1 a 5), .int (σ.1 a 6), .int (σ.1 a 7), .int (σ.1 a 8), .int (σ.1 a 9), .int (σ.1 a 10), .int (σ.1 a 11), .int (σ.1 a 12), .int (σ.1 a 13), .int (σ.1 a 14)]) rfl rfl 8 (by decide) hin tyX2 tyX2_ok nmX2 hl rfl rfl rfl (by simp) (by first | rfl | simp [bz_cE, upd]) hdg kk
theorem gf_2_9 {a index : Nat} (C : bz_C p s m c args cc nL own Ts G) (h : bz_H G s σ H locs) (ha : bz_k G a = (3, 0)) (hin : ∀ w ∈ wsX20, w ∈ Ts) (hl : Cond.fieldLink own index "StarterBay$Motor" "heat" "I" ∈ Ts) (hdg : decode cc pc = .ok (.getfield index, 3)) (kk : W p l e R s m args below meth c H locs cells slots Q (F0 m (pc + 3) ls (.int (σ.1 a 9) :: rest))) : W p l e R s m args below meth c H locs cells slots Q (F0 m pc ls (.ref a :: rest)) :=
  bz_get C h ha (by decide) (ci := 2) (fs := [.int (σ.1 a 0), bz_rv (σ.2 a 1), .int (σ.1 a 2), .int (σ.1 a 3), .int (σ.1 a 4), .int (σ.1 a 5), .int (σ.1 a 6), .int (σ.1 a 7), .int (σ.1 a 8), .int (σ.1 a 9), .int (σ.1 a 10), .int (σ.1 a 11), .int (σ.1 a 12), .int (σ.1 a 13), .int (σ.1 a 14)]) rfl rfl 9 (by decide) hin hl (v := .int (σ.1 a 9)) rfl hdg kk
theorem pf_2_9 {a index : Nat} (C : bz_C p s m c args cc nL own Ts G) (h : bz_H G s σ H locs) (ha : bz_k G a = (3, 0)) (hin : ∀ w ∈ wsX20, w ∈ Ts) (hl : Cond.fieldLink own index "StarterBay$Motor" "heat" "I" ∈ Ts) {v : Int32} (hdg : decode cc pc = .ok (.putfield index, 3)) (kk : ∀ (H1 : Heap) (locs1 : List Loc), bz_H G s (bz_wi σ a 9 v) H1 locs1 → W p l e R s m args below meth c H1 locs1 cells slots Q (F0 m (pc + 3) ls rest)) : W p l e R s m args below meth c H locs cells slots Q (F0 m pc ls (.int v :: .ref a :: rest)) :=
  bz_put C h ha (by decide) (ci := 2) (fs := [.int (σ.1 a 0), bz_rv (σ.2 a 1), .int (σ.1 a 2), .int (σ.1 a 3), .int (σ.1 a 4), .int (σ.1 a 5), .int (σ.1 a 6), .int (σ.1 a 7), .int (σ.1 a 8), .int (σ.1 a 9), .int (σ.1 a 10), .int (σ.1 a 11), .int (σ.1 a 12), .int (σ.1 a 13), .int (σ.1 a 14)]) rfl rfl 9 (by decide) hin tyX2 tyX2_ok nmX2 hl rfl rfl rfl (by simp) (by first | rfl | simp [bz_cE, upd]) hdg kk
theorem gf_2_10 {a index : Nat} (C : bz_C p s m c args cc nL own Ts G) (h : bz_H G s σ H locs) (ha : bz_k G a = (3, 0)) (hin : ∀ w ∈ wsX20, w ∈ Ts) (hl : Cond.fieldLink own index "StarterBay$Motor" "lost" "I" ∈ Ts) (hdg : decode cc pc = .ok (.getfield index, 3)) (kk : W p l e R s m args below meth c H locs cells slots Q (F0 m (pc + 3) ls (.int (σ.1 a 10) :: rest))) : W p l e R s m args below meth c H locs cells slots Q (F0 m pc ls (.ref a :: rest)) :=
  bz_get C h ha (by decide) (ci := 2) (fs := [.int (σ.1 a 0), bz_rv (σ.2 a 1), .int (σ.1 a 2), .int (σ.1 a 3), .int (σ.1 a 4), .int (σ.1 a 5), .int (σ.1 a 6), .int (σ.1 a 7), .int (σ.1 a 8), .int (σ.1 a 9), .int (σ.1 a 10), .int (σ.1 a 11), .int (σ.1 a 12), .int (σ.1 a 13), .int (σ.1 a 14)]) rfl rfl 10 (by decide) hin hl (v := .int (σ.1 a 10)) rfl hdg kk
theorem pf_2_10 {a index : Nat} (C : bz_C p s m c args cc nL own Ts G) (h : bz_H G s σ H locs) (ha : bz_k G a = (3, 0)) (hin : ∀ w ∈ wsX20, w ∈ Ts) (hl : Cond.fieldLink own index "StarterBay$Motor" "lost" "I" ∈ Ts) {v : Int32} (hdg : decode cc pc = .ok (.putfield index, 3)) (kk : ∀ (H1 : Heap) (locs1 : List Loc), bz_H G s (bz_wi σ a 10 v) H1 locs1 → W p l e R s m args below meth c H1 locs1 cells slots Q (F0 m (pc + 3) ls rest)) : W p l e R s m args below meth c H locs cells slots Q (F0 m pc ls (.int v :: .ref a :: rest)) :=
  bz_put C h ha (by decide) (ci := 2) (fs := [.int (σ.1 a 0), bz_rv (σ.2 a 1), .int (σ.1 a 2), .int (σ.1 a 3), .int (σ.1 a 4), .int (σ.1 a 5), .int (σ.1 a 6), .int (σ.1 a 7), .int (σ.1 a 8), .int (σ.1 a 9), .int (σ.1 a 10), .int (σ.1 a 11), .int (σ.1 a 12), .int (σ.1 a 13), .int (σ.1 a 14)]) rfl rfl 10 (by decide) hin tyX2 tyX2_ok nmX2 hl rfl rfl rfl (by simp) (by first | rfl | simp [bz_cE, upd]) hdg kk
theorem gf_2_11 {a index : Nat} (C : bz_C p s m c args cc nL own Ts G) (h : bz_H G s σ H locs) (ha : bz_k G a = (3, 0)) (hin : ∀ w ∈ wsX20, w ∈ Ts) (hl : Cond.fieldLink own index "StarterBay$Motor" "rampSeconds" "I" ∈ Ts) (hdg : decode cc pc = .ok (.getfield index, 3)) (kk : W p l e R s m args below meth c H locs cells slots Q (F0 m (pc + 3) ls (.int (σ.1 a 11) :: rest))) : W p l e R s m args below meth c H locs cells slots Q (F0 m pc ls (.ref a :: rest)) :=
  bz_get C h ha (by decide) (ci := 2) (fs := [.int (σ.1 a 0), bz_rv (σ.2 a 1), .int (σ.1 a 2), .int (σ.1 a 3), .int (σ.1 a 4), .int (σ.1 a 5), .int (σ.1 a 6), .int (σ.1 a 7), .int (σ.1 a 8), .int (σ.1 a 9), .int (σ.1 a 10), .int (σ.1 a 11), .int (σ.1 a 12), .int (σ.1 a 13), .int (σ.1 a 14)]) rfl rfl 11 (by decide) hin hl (v := .int (σ.1 a 11)) rfl hdg kk
theorem pf_2_11 {a index : Nat} (C : bz_C p s m c args cc nL own Ts G) (h : bz_H G s σ H locs) (ha : bz_k G a = (3, 0)) (hin : ∀ w ∈ wsX20, w ∈ Ts) (hl : Cond.fieldLink own index "StarterBay$Motor" "rampSeconds" "I" ∈ Ts) {v : Int32} (hdg : decode cc pc = .ok (.putfield index, 3)) (kk : ∀ (H1 : Heap) (locs1 : List Loc), bz_H G s (bz_wi σ a 11 v) H1 locs1 → W p l e R s m args below meth c H1 locs1 cells slots Q (F0 m (pc + 3) ls rest)) : W p l e R s m args below meth c H locs cells slots Q (F0 m pc ls (.int v :: .ref a :: rest)) :=
  bz_put C h ha (by decide) (ci := 2) (fs := [.int (σ.1 a 0), bz_rv (σ.2 a 1), .int (σ.1 a 2), .int (σ.1 a 3), .int (σ.1 a 4), .int (σ.1 a 5), .int (σ.1 a 6), .int (σ.1 a 7), .int (σ.1 a 8), .int (σ.1 a 9), .int (σ.1 a 10), .int (σ.1 a 11), .int (σ.1 a 12), .int (σ.1 a 13), .int (σ.1 a 14)]) rfl rfl 11 (by decide) hin tyX2 tyX2_ok nmX2 hl rfl rfl rfl (by simp) (by first | rfl | simp [bz_cE, upd]) hdg kk
theorem gf_2_12 {a index : Nat} (C : bz_C p s m c args cc nL own Ts G) (h : bz_H G s σ H locs) (ha : bz_k G a = (3, 0)) (hin : ∀ w ∈ wsX20, w ∈ Ts) (hl : Cond.fieldLink own index "StarterBay$Motor" "requestedAt" "I" ∈ Ts) (hdg : decode cc pc = .ok (.getfield index, 3)) (kk : W p l e R s m args below meth c H locs cells slots Q (F0 m (pc + 3) ls (.int (σ.1 a 12) :: rest))) : W p l e R s m args below meth c H locs cells slots Q (F0 m pc ls (.ref a :: rest)) :=
  bz_get C h ha (by decide) (ci := 2) (fs := [.int (σ.1 a 0), bz_rv (σ.2 a 1), .int (σ.1 a 2), .int (σ.1 a 3), .int (σ.1 a 4), .int (σ.1 a 5), .int (σ.1 a 6), .int (σ.1 a 7), .int (σ.1 a 8), .int (σ.1 a 9), .int (σ.1 a 10), .int (σ.1 a 11), .int (σ.1 a 12), .int (σ.1 a 13), .int (σ.1 a 14)]) rfl rfl 12 (by decide) hin hl (v := .int (σ.1 a 12)) rfl hdg kk
theorem pf_2_12 {a index : Nat} (C : bz_C p s m c args cc nL own Ts G) (h : bz_H G s σ H locs) (ha : bz_k G a = (3, 0)) (hin : ∀ w ∈ wsX20, w ∈ Ts) (hl : Cond.fieldLink own index "StarterBay$Motor" "requestedAt" "I" ∈ Ts) {v : Int32} (hdg : decode cc pc = .ok (.putfield index, 3)) (kk : ∀ (H1 : Heap) (locs1 : List Loc), bz_H G s (bz_wi σ a 12 v) H1 locs1 → W p l e R s m args below meth c H1 locs1 cells slots Q (F0 m (pc + 3) ls rest)) : W p l e R s m args below meth c H locs cells slots Q (F0 m pc ls (.int v :: .ref a :: rest)) :=
  bz_put C h ha (by decide) (ci := 2) (fs := [.int (σ.1 a 0), bz_rv (σ.2 a 1), .int (σ.1 a 2), .int (σ.1 a 3), .int (σ.1 a 4), .int (σ.1 a 5), .int (σ.1 a 6), .int (σ.1 a 7), .int (σ.1 a 8), .int (σ.1 a 9), .int (σ.1 a 10), .int (σ.1 a 11), .int (σ.1 a 12), .int (σ.1 a 13), .int (σ.1 a 14)]) rfl rfl 12 (by decide) hin tyX2 tyX2_ok nmX2 hl rfl rfl rfl (by simp) (by first | rfl | simp [bz_cE, upd]) hdg kk
theorem gf_2_13 {a index : Nat} (C : bz_C p s m c args cc nL own Ts G) (h : bz_H G s σ H locs) (ha : bz_k G a = (3, 0)) (hin : ∀ w ∈ wsX20, w ∈ Ts) (hl : Cond.fieldLink own index "StarterBay$Motor" "tripReason" "I" ∈ Ts) (hdg : decode cc pc = .ok (.getfield index, 3)) (kk : W p l e R s m args below meth c H locs cells slots Q (F0 m (pc + 3) ls (.int (σ.1 a 13) :: rest))) : W p l e R s m args below meth c H locs cells slots Q (F0 m pc ls (.ref a :: rest)) :=
  bz_get C h ha (by decide) (ci := 2) (fs := [.int (σ.1 a 0), bz_rv (σ.2 a 1), .int (σ.1 a 2), .int (σ.1 a 3), .int (σ.1 a 4), .int (σ.1 a 5), .int (σ.1 a 6), .int (σ.1 a 7), .int (σ.1 a 8), .int (σ.1 a 9), .int (σ.1 a 10), .int (σ.1 a 11), .int (σ.1 a 12), .int (σ.1 a 13), .int (σ.1 a 14)]) rfl rfl 13 (by decide) hin hl (v := .int (σ.1 a 13)) rfl hdg kk
theorem pf_2_13 {a index : Nat} (C : bz_C p s m c args cc nL own Ts G) (h : bz_H G s σ H locs) (ha : bz_k G a = (3, 0)) (hin : ∀ w ∈ wsX20, w ∈ Ts) (hl : Cond.fieldLink own index "StarterBay$Motor" "tripReason" "I" ∈ Ts) {v : Int32} (hdg : decode cc pc = .ok (.putfield index, 3)) (kk : ∀ (H1 : Heap) (locs1 : List Loc), bz_H G s (bz_wi σ a 13 v) H1 locs1 → W p l e R s m args below meth c H1 locs1 cells slots Q (F0 m (pc + 3) ls rest)) : W p l e R s m args below meth c H locs cells slots Q (F0 m pc ls (.int v :: .ref a :: rest)) :=
  bz_put C h ha (by decide) (ci := 2) (fs := [.int (σ.1 a 0), bz_rv (σ.2 a 1), .int (σ.1 a 2), .int (σ.1 a 3), .int (σ.1 a 4), .int (σ.1 a 5), .int (σ.1 a 6), .int (σ.1 a 7), .int (σ.1 a 8), .int (σ.1 a 9), .int (σ.1 a 10), .int (σ.1 a 11), .int (σ.1 a 12), .int (σ.1 a 13), .int (σ.1 a 14)]) rfl rfl 13 (by decide) hin tyX2 tyX2_ok nmX2 hl rfl rfl rfl (by simp) (by first | rfl | simp [bz_cE, upd]) hdg kk
theorem gf_2_14 {a index : Nat} (C : bz_C p s m c args cc nL own Ts G) (h : bz_H G s σ H locs) (ha : bz_k G a = (3, 0)) (hin : ∀ w ∈ wsX20, w ∈ Ts) (hl : Cond.fieldLink own index "StarterBay$Motor" "lossSeconds" "I" ∈ Ts) (hdg : decode cc pc = .ok (.getfield index, 3)) (kk : W p l e R s m args below meth c H locs cells slots Q (F0 m (pc + 3) ls (.int (σ.1 a 14) :: rest))) : W p l e R s m args below meth c H locs cells slots Q (F0 m pc ls (.ref a :: rest)) :=
  bz_get C h ha (by decide) (ci := 2) (fs := [.int (σ.1 a 0), bz_rv (σ.2 a 1), .int (σ.1 a 2), .int (σ.1 a 3), .int (σ.1 a 4), .int (σ.1 a 5), .int (σ.1 a 6), .int (σ.1 a 7), .int (σ.1 a 8), .int (σ.1 a 9), .int (σ.1 a 10), .int (σ.1 a 11), .int (σ.1 a 12), .int (σ.1 a 13), .int (σ.1 a 14)]) rfl rfl 14 (by decide) hin hl (v := .int (σ.1 a 14)) rfl hdg kk
theorem pf_2_14 {a index : Nat} (C : bz_C p s m c args cc nL own Ts G) (h : bz_H G s σ H locs) (ha : bz_k G a = (3, 0)) (hin : ∀ w ∈ wsX20, w ∈ Ts) (hl : Cond.fieldLink own index "StarterBay$Motor" "lossSeconds" "I" ∈ Ts) {v : Int32} (hdg : decode cc pc = .ok (.putfield index, 3)) (kk : ∀ (H1 : Heap) (locs1 : List Loc), bz_H G s (bz_wi σ a 14 v) H1 locs1 → W p l e R s m args below meth c H1 locs1 cells slots Q (F0 m (pc + 3) ls rest)) : W p l e R s m args below meth c H locs cells slots Q (F0 m pc ls (.int v :: .ref a :: rest)) :=
  bz_put C h ha (by decide) (ci := 2) (fs := [.int (σ.1 a 0), bz_rv (σ.2 a 1), .int (σ.1 a 2), .int (σ.1 a 3), .int (σ.1 a 4), .int (σ.1 a 5), .int (σ.1 a 6), .int (σ.1 a 7), .int (σ.1 a 8), .int (σ.1 a 9), .int (σ.1 a 10), .int (σ.1 a 11), .int (σ.1 a 12), .int (σ.1 a 13), .int (σ.1 a 14)]) rfl rfl 14 (by decide) hin tyX2 tyX2_ok nmX2 hl rfl rfl rfl (by simp) (by first | rfl | simp [bz_cE, upd]) hdg kk
theorem gf_3_0 {a index : Nat} (C : bz_C p s m c args cc nL own Ts G) (h : bz_H G s σ H locs) (ha : bz_k G a = (4, 0)) (hin : ∀ w ∈ wsX30, w ∈ Ts) (hl : Cond.fieldLink own index "StarterBay$State" "motors" "[LStarterBay$Motor;" ∈ Ts) (hdg : decode cc pc = .ok (.getfield index, 3)) (kk : bz_k G (σ.2 a 0) = (11, 8) → W p l e R s m args below meth c H locs cells slots Q (F0 m (pc + 3) ls (.ref (σ.2 a 0) :: rest))) : W p l e R s m args below meth c H locs cells slots Q (F0 m pc ls (.ref a :: rest)) := by
  have hk := bz_R_3_0 h.2.1 ha
  refine bz_get C h ha (by decide) (ci := 3) (fs := [bz_rv (σ.2 a 0), bz_rv (σ.2 a 1), bz_rv (σ.2 a 2), .int (σ.1 a 3), .int (σ.1 a 4), .int (σ.1 a 5), .int (σ.1 a 6), .int (σ.1 a 7)]) rfl rfl 0 (by decide) hin hl (v := bz_rv (σ.2 a 0)) rfl hdg ?_
  have e1 := bz_rv0 C.2.2.2.2.2.1.2.2.2 hk (by decide)
  rw [e1]
  exact kk hk
theorem gf_3_1 {a index : Nat} (C : bz_C p s m c args cc nL own Ts G) (h : bz_H G s σ H locs) (ha : bz_k G a = (4, 0)) (hin : ∀ w ∈ wsX30, w ∈ Ts) (hl : Cond.fieldLink own index "StarterBay$State" "timetable" "LStarterBay$Timetable;" ∈ Ts) (hdg : decode cc pc = .ok (.getfield index, 3)) (kk : bz_k G (σ.2 a 1) = (5, 0) → W p l e R s m args below meth c H locs cells slots Q (F0 m (pc + 3) ls (.ref (σ.2 a 1) :: rest))) : W p l e R s m args below meth c H locs cells slots Q (F0 m pc ls (.ref a :: rest)) := by
  have hk := bz_R_3_1 h.2.1 ha
  refine bz_get C h ha (by decide) (ci := 3) (fs := [bz_rv (σ.2 a 0), bz_rv (σ.2 a 1), bz_rv (σ.2 a 2), .int (σ.1 a 3), .int (σ.1 a 4), .int (σ.1 a 5), .int (σ.1 a 6), .int (σ.1 a 7)]) rfl rfl 1 (by decide) hin hl (v := bz_rv (σ.2 a 1)) rfl hdg ?_
  have e1 := bz_rv0 C.2.2.2.2.2.1.2.2.2 hk (by decide)
  rw [e1]
  exact kk hk
theorem gf_3_2 {a index : Nat} (C : bz_C p s m c args cc nL own Ts G) (h : bz_H G s σ H locs) (ha : bz_k G a = (4, 0)) (hin : ∀ w ∈ wsX30, w ∈ Ts) (hl : Cond.fieldLink own index "StarterBay$State" "events" "LStarterBay$EventLog;" ∈ Ts) (hdg : decode cc pc = .ok (.getfield index, 3)) (kk : bz_k G (σ.2 a 2) = (1, 0) → W p l e R s m args below meth c H locs cells slots Q (F0 m (pc + 3) ls (.ref (σ.2 a 2) :: rest))) : W p l e R s m args below meth c H locs cells slots Q (F0 m pc ls (.ref a :: rest)) := by
  have hk := bz_R_3_2 h.2.1 ha
  refine bz_get C h ha (by decide) (ci := 3) (fs := [bz_rv (σ.2 a 0), bz_rv (σ.2 a 1), bz_rv (σ.2 a 2), .int (σ.1 a 3), .int (σ.1 a 4), .int (σ.1 a 5), .int (σ.1 a 6), .int (σ.1 a 7)]) rfl rfl 2 (by decide) hin hl (v := bz_rv (σ.2 a 2)) rfl hdg ?_
  have e1 := bz_rv0 C.2.2.2.2.2.1.2.2.2 hk (by decide)
  rw [e1]
  exact kk hk
theorem gf_3_3 {a index : Nat} (C : bz_C p s m c args cc nL own Ts G) (h : bz_H G s σ H locs) (ha : bz_k G a = (4, 0)) (hin : ∀ w ∈ wsX30, w ∈ Ts) (hl : Cond.fieldLink own index "StarterBay$State" "motorCount" "I" ∈ Ts) (hdg : decode cc pc = .ok (.getfield index, 3)) (kk : W p l e R s m args below meth c H locs cells slots Q (F0 m (pc + 3) ls (.int (σ.1 a 3) :: rest))) : W p l e R s m args below meth c H locs cells slots Q (F0 m pc ls (.ref a :: rest)) :=
  bz_get C h ha (by decide) (ci := 3) (fs := [bz_rv (σ.2 a 0), bz_rv (σ.2 a 1), bz_rv (σ.2 a 2), .int (σ.1 a 3), .int (σ.1 a 4), .int (σ.1 a 5), .int (σ.1 a 6), .int (σ.1 a 7)]) rfl rfl 3 (by decide) hin hl (v := .int (σ.1 a 3)) rfl hdg kk
theorem pf_3_3 {a index : Nat} (C : bz_C p s m c args cc nL own Ts G) (h : bz_H G s σ H locs) (ha : bz_k G a = (4, 0)) (hin : ∀ w ∈ wsX30, w ∈ Ts) (hl : Cond.fieldLink own index "StarterBay$State" "motorCount" "I" ∈ Ts) {v : Int32} (hdg : decode cc pc = .ok (.putfield index, 3)) (kk : ∀ (H1 : Heap) (locs1 : List Loc), bz_H G s (bz_wi σ a 3 v) H1 locs1 → W p l e R s m args below meth c H1 locs1 cells slots Q (F0 m (pc + 3) ls rest)) : W p l e R s m args below meth c H locs cells slots Q (F0 m pc ls (.int v :: .ref a :: rest)) :=
  bz_put C h ha (by decide) (ci := 3) (fs := [bz_rv (σ.2 a 0), bz_rv (σ.2 a 1), bz_rv (σ.2 a 2), .int (σ.1 a 3), .int (σ.1 a 4), .int (σ.1 a 5), .int (σ.1 a 6), .int (σ.1 a 7)]) rfl rfl 3 (by decide) hin tyX3 tyX3_ok nmX3 hl rfl rfl rfl (by simp) (by first | rfl | simp [bz_cE, upd]) hdg kk
theorem gf_3_4 {a index : Nat} (C : bz_C p s m c args cc nL own Ts G) (h : bz_H G s σ H locs) (ha : bz_k G a = (4, 0)) (hin : ∀ w ∈ wsX30, w ∈ Ts) (hl : Cond.fieldLink own index "StarterBay$State" "clock" "I" ∈ Ts) (hdg : decode cc pc = .ok (.getfield index, 3)) (kk : W p l e R s m args below meth c H locs cells slots Q (F0 m (pc + 3) ls (.int (σ.1 a 4) :: rest))) : W p l e R s m args below meth c H locs cells slots Q (F0 m pc ls (.ref a :: rest)) :=
  bz_get C h ha (by decide) (ci := 3) (fs := [bz_rv (σ.2 a 0), bz_rv (σ.2 a 1), bz_rv (σ.2 a 2), .int (σ.1 a 3), .int (σ.1 a 4), .int (σ.1 a 5), .int (σ.1 a 6), .int (σ.1 a 7)]) rfl rfl 4 (by decide) hin hl (v := .int (σ.1 a 4)) rfl hdg kk
theorem pf_3_4 {a index : Nat} (C : bz_C p s m c args cc nL own Ts G) (h : bz_H G s σ H locs) (ha : bz_k G a = (4, 0)) (hin : ∀ w ∈ wsX30, w ∈ Ts) (hl : Cond.fieldLink own index "StarterBay$State" "clock" "I" ∈ Ts) {v : Int32} (hdg : decode cc pc = .ok (.putfield index, 3)) (kk : ∀ (H1 : Heap) (locs1 : List Loc), bz_H G s (bz_wi σ a 4 v) H1 locs1 → W p l e R s m args below meth c H1 locs1 cells slots Q (F0 m (pc + 3) ls rest)) : W p l e R s m args below meth c H locs cells slots Q (F0 m pc ls (.int v :: .ref a :: rest)) :=
  bz_put C h ha (by decide) (ci := 3) (fs := [bz_rv (σ.2 a 0), bz_rv (σ.2 a 1), bz_rv (σ.2 a 2), .int (σ.1 a 3), .int (σ.1 a 4), .int (σ.1 a 5), .int (σ.1 a 6), .int (σ.1 a 7)]) rfl rfl 4 (by decide) hin tyX3 tyX3_ok nmX3 hl rfl rfl rfl (by simp) (by first | rfl | simp [bz_cE, upd]) hdg kk
theorem gf_3_5 {a index : Nat} (C : bz_C p s m c args cc nL own Ts G) (h : bz_H G s σ H locs) (ha : bz_k G a = (4, 0)) (hin : ∀ w ∈ wsX30, w ∈ Ts) (hl : Cond.fieldLink own index "StarterBay$State" "limit" "I" ∈ Ts) (hdg : decode cc pc = .ok (.getfield index, 3)) (kk : W p l e R s m args below meth c H locs cells slots Q (F0 m (pc + 3) ls (.int (σ.1 a 5) :: rest))) : W p l e R s m args below meth c H locs cells slots Q (F0 m pc ls (.ref a :: rest)) :=
  bz_get C h ha (by decide) (ci := 3) (fs := [bz_rv (σ.2 a 0), bz_rv (σ.2 a 1), bz_rv (σ.2 a 2), .int (σ.1 a 3), .int (σ.1 a 4), .int (σ.1 a 5), .int (σ.1 a 6), .int (σ.1 a 7)]) rfl rfl 5 (by decide) hin hl (v := .int (σ.1 a 5)) rfl hdg kk
theorem pf_3_5 {a index : Nat} (C : bz_C p s m c args cc nL own Ts G) (h : bz_H G s σ H locs) (ha : bz_k G a = (4, 0)) (hin : ∀ w ∈ wsX30, w ∈ Ts) (hl : Cond.fieldLink own index "StarterBay$State" "limit" "I" ∈ Ts) {v : Int32} (hdg : decode cc pc = .ok (.putfield index, 3)) (kk : ∀ (H1 : Heap) (locs1 : List Loc), bz_H G s (bz_wi σ a 5 v) H1 locs1 → W p l e R s m args below meth c H1 locs1 cells slots Q (F0 m (pc + 3) ls rest)) : W p l e R s m args below meth c H locs cells slots Q (F0 m pc ls (.int v :: .ref a :: rest)) :=
  bz_put C h ha (by decide) (ci := 3) (fs := [bz_rv (σ.2 a 0), bz_rv (σ.2 a 1), bz_rv (σ.2 a 2), .int (σ.1 a 3), .int (σ.1 a 4), .int (σ.1 a 5), .int (σ.1 a 6), .int (σ.1 a 7)]) rfl rfl 5 (by decide) hin tyX3 tyX3_ok nmX3 hl rfl rfl rfl (by simp) (by first | rfl | simp [bz_cE, upd]) hdg kk
theorem gf_3_6 {a index : Nat} (C : bz_C p s m c args cc nL own Ts G) (h : bz_H G s σ H locs) (ha : bz_k G a = (4, 0)) (hin : ∀ w ∈ wsX30, w ∈ Ts) (hl : Cond.fieldLink own index "StarterBay$State" "fan" "Z" ∈ Ts) (hdg : decode cc pc = .ok (.getfield index, 3)) (kk : W p l e R s m args below meth c H locs cells slots Q (F0 m (pc + 3) ls (.int (σ.1 a 6) :: rest))) : W p l e R s m args below meth c H locs cells slots Q (F0 m pc ls (.ref a :: rest)) :=
  bz_get C h ha (by decide) (ci := 3) (fs := [bz_rv (σ.2 a 0), bz_rv (σ.2 a 1), bz_rv (σ.2 a 2), .int (σ.1 a 3), .int (σ.1 a 4), .int (σ.1 a 5), .int (σ.1 a 6), .int (σ.1 a 7)]) rfl rfl 6 (by decide) hin hl (v := .int (σ.1 a 6)) rfl hdg kk
theorem pf_3_6 {a index : Nat} (C : bz_C p s m c args cc nL own Ts G) (h : bz_H G s σ H locs) (ha : bz_k G a = (4, 0)) (hin : ∀ w ∈ wsX30, w ∈ Ts) (hl : Cond.fieldLink own index "StarterBay$State" "fan" "Z" ∈ Ts) {v : Int32} (hv : ib_ v = true) (hdg : decode cc pc = .ok (.putfield index, 3)) (kk : ∀ (H1 : Heap) (locs1 : List Loc), bz_H G s (bz_wi σ a 6 v) H1 locs1 → W p l e R s m args below meth c H1 locs1 cells slots Q (F0 m (pc + 3) ls rest)) : W p l e R s m args below meth c H locs cells slots Q (F0 m pc ls (.int v :: .ref a :: rest)) :=
  bz_put C h ha (by decide) (ci := 3) (fs := [bz_rv (σ.2 a 0), bz_rv (σ.2 a 1), bz_rv (σ.2 a 2), .int (σ.1 a 3), .int (σ.1 a 4), .int (σ.1 a 5), .int (σ.1 a 6), .int (σ.1 a 7)]) rfl rfl 6 (by decide) hin tyX3 tyX3_ok nmX3 hl rfl (ib_u hv).1 (ib_u hv).2 (by simp) (by first | rfl | simp [bz_cE, upd]) hdg kk
theorem gf_3_7 {a index : Nat} (C : bz_C p s m c args cc nL own Ts G) (h : bz_H G s σ H locs) (ha : bz_k G a = (4, 0)) (hin : ∀ w ∈ wsX30, w ∈ Ts) (hl : Cond.fieldLink own index "StarterBay$State" "refusedItems" "I" ∈ Ts) (hdg : decode cc pc = .ok (.getfield index, 3)) (kk : W p l e R s m args below meth c H locs cells slots Q (F0 m (pc + 3) ls (.int (σ.1 a 7) :: rest))) : W p l e R s m args below meth c H locs cells slots Q (F0 m pc ls (.ref a :: rest)) :=
  bz_get C h ha (by decide) (ci := 3) (fs := [bz_rv (σ.2 a 0), bz_rv (σ.2 a 1), bz_rv (σ.2 a 2), .int (σ.1 a 3), .int (σ.1 a 4), .int (σ.1 a 5), .int (σ.1 a 6), .int (σ.1 a 7)]) rfl rfl 7 (by decide) hin hl (v := .int (σ.1 a 7)) rfl hdg kk
theorem pf_3_7 {a index : Nat} (C : bz_C p s m c args cc nL own Ts G) (h : bz_H G s σ H locs) (ha : bz_k G a = (4, 0)) (hin : ∀ w ∈ wsX30, w ∈ Ts) (hl : Cond.fieldLink own index "StarterBay$State" "refusedItems" "I" ∈ Ts) {v : Int32} (hdg : decode cc pc = .ok (.putfield index, 3)) (kk : ∀ (H1 : Heap) (locs1 : List Loc), bz_H G s (bz_wi σ a 7 v) H1 locs1 → W p l e R s m args below meth c H1 locs1 cells slots Q (F0 m (pc + 3) ls rest)) : W p l e R s m args below meth c H locs cells slots Q (F0 m pc ls (.int v :: .ref a :: rest)) :=
  bz_put C h ha (by decide) (ci := 3) (fs := [bz_rv (σ.2 a 0), bz_rv (σ.2 a 1), bz_rv (σ.2 a 2), .int (σ.1 a 3), .int (σ.1 a 4), .int (σ.1 a 5), .int (σ.1 a 6), .int (σ.1 a 7)]) rfl rfl 7 (by decide) hin tyX3 tyX3_ok nmX3 hl rfl rfl rfl (by simp) (by first | rfl | simp [bz_cE, upd]) hdg kk
theorem gf_4_0 {a index : Nat} (C : bz_C p s m c args cc nL own Ts G) (h : bz_H G s σ H locs) (ha : bz_k G a = (5, 0)) (hin : ∀ w ∈ wsX40, w ∈ Ts) (hl : Cond.fieldLink own index "StarterBay$Timetable" "due" "[I" ∈ Ts) (hdg : decode cc pc = .ok (.getfield index, 3)) (kk : bz_k G (σ.2 a 0) = (9, 10) → W p l e R s m args below meth c H locs cells slots Q (F0 m (pc + 3) ls (.ref (σ.2 a 0) :: rest))) : W p l e R s m args below meth c H locs cells slots Q (F0 m pc ls (.ref a :: rest)) := by
  have hk := bz_R_4_0 h.2.1 ha
  refine bz_get C h ha (by decide) (ci := 4) (fs := [bz_rv (σ.2 a 0), bz_rv (σ.2 a 1), bz_rv (σ.2 a 2), bz_rv (σ.2 a 3), .int (σ.1 a 4), .int (σ.1 a 5)]) rfl rfl 0 (by decide) hin hl (v := bz_rv (σ.2 a 0)) rfl hdg ?_
  have e1 := bz_rv0 C.2.2.2.2.2.1.2.2.2 hk (by decide)
  rw [e1]
  exact kk hk
theorem gf_4_1 {a index : Nat} (C : bz_C p s m c args cc nL own Ts G) (h : bz_H G s σ H locs) (ha : bz_k G a = (5, 0)) (hin : ∀ w ∈ wsX40, w ∈ Ts) (hl : Cond.fieldLink own index "StarterBay$Timetable" "order" "[I" ∈ Ts) (hdg : decode cc pc = .ok (.getfield index, 3)) (kk : bz_k G (σ.2 a 1) = (9, 10) → W p l e R s m args below meth c H locs cells slots Q (F0 m (pc + 3) ls (.ref (σ.2 a 1) :: rest))) : W p l e R s m args below meth c H locs cells slots Q (F0 m pc ls (.ref a :: rest)) := by
  have hk := bz_R_4_1 h.2.1 ha
  refine bz_get C h ha (by decide) (ci := 4) (fs := [bz_rv (σ.2 a 0), bz_rv (σ.2 a 1), bz_rv (σ.2 a 2), bz_rv (σ.2 a 3), .int (σ.1 a 4), .int (σ.1 a 5)]) rfl rfl 1 (by decide) hin hl (v := bz_rv (σ.2 a 1)) rfl hdg ?_
  have e1 := bz_rv0 C.2.2.2.2.2.1.2.2.2 hk (by decide)
  rw [e1]
  exact kk hk
theorem gf_4_2 {a index : Nat} (C : bz_C p s m c args cc nL own Ts G) (h : bz_H G s σ H locs) (ha : bz_k G a = (5, 0)) (hin : ∀ w ∈ wsX40, w ∈ Ts) (hl : Cond.fieldLink own index "StarterBay$Timetable" "first" "[I" ∈ Ts) (hdg : decode cc pc = .ok (.getfield index, 3)) (kk : bz_k G (σ.2 a 2) = (9, 10) → W p l e R s m args below meth c H locs cells slots Q (F0 m (pc + 3) ls (.ref (σ.2 a 2) :: rest))) : W p l e R s m args below meth c H locs cells slots Q (F0 m pc ls (.ref a :: rest)) := by
  have hk := bz_R_4_2 h.2.1 ha
  refine bz_get C h ha (by decide) (ci := 4) (fs := [bz_rv (σ.2 a 0), bz_rv (σ.2 a 1), bz_rv (σ.2 a 2), bz_rv (σ.2 a 3), .int (σ.1 a 4), .int (σ.1 a 5)]) rfl rfl 2 (by decide) hin hl (v := bz_rv (σ.2 a 2)) rfl hdg ?_
  have e1 := bz_rv0 C.2.2.2.2.2.1.2.2.2 hk (by decide)
  rw [e1]
  exact kk hk
theorem gf_4_3 {a index : Nat} (C : bz_C p s m c args cc nL own Ts G) (h : bz_H G s σ H locs) (ha : bz_k G a = (5, 0)) (hin : ∀ w ∈ wsX40, w ∈ Ts) (hl : Cond.fieldLink own index "StarterBay$Timetable" "second" "[I" ∈ Ts) (hdg : decode cc pc = .ok (.getfield index, 3)) (kk : bz_k G (σ.2 a 3) = (9, 10) → W p l e R s m args below meth c H locs cells slots Q (F0 m (pc + 3) ls (.ref (σ.2 a 3) :: rest))) : W p l e R s m args below meth c H locs cells slots Q (F0 m pc ls (.ref a :: rest)) := by
  have hk := bz_R_4_3 h.2.1 ha
  refine bz_get C h ha (by decide) (ci := 4) (fs := [bz_rv (σ.2 a 0), bz_rv (σ.2 a 1), bz_rv (σ.2 a 2), bz_rv (σ.2 a 3), .int (σ.1 a 4), .int (σ.1 a 5)]) rfl rfl 3 (by decide) hin hl (v := bz_rv (σ.2 a 3)) rfl hdg ?_
  have e1 := bz_rv0 C.2.2.2.2.2.1.2.2.2 hk (by decide)
  rw [e1]
  exact kk hk
theorem gf_4_4 {a index : Nat} (C : bz_C p s m c args cc nL own Ts G) (h : bz_H G s σ H locs) (ha : bz_k G a = (5, 0)) (hin : ∀ w ∈ wsX40, w ∈ Ts) (hl : Cond.fieldLink own index "StarterBay$Timetable" "size" "I" ∈ Ts) (hdg : decode cc pc = .ok (.getfield index, 3)) (kk : W p l e R s m args below meth c H locs cells slots Q (F0 m (pc + 3) ls (.int (σ.1 a 4) :: rest))) : W p l e R s m args below meth c H locs cells slots Q (F0 m pc ls (.ref a :: rest)) :=
  bz_get C h ha (by decide) (ci := 4) (fs := [bz_rv (σ.2 a 0), bz_rv (σ.2 a 1), bz_rv (σ.2 a 2), bz_rv (σ.2 a 3), .int (σ.1 a 4), .int (σ.1 a 5)]) rfl rfl 4 (by decide) hin hl (v := .int (σ.1 a 4)) rfl hdg kk
theorem pf_4_4 {a index : Nat} (C : bz_C p s m c args cc nL own Ts G) (h : bz_H G s σ H locs) (ha : bz_k G a = (5, 0)) (hin : ∀ w ∈ wsX40, w ∈ Ts) (hl : Cond.fieldLink own index "StarterBay$Timetable" "size" "I" ∈ Ts) {v : Int32} (hdg : decode cc pc = .ok (.putfield index, 3)) (kk : ∀ (H1 : Heap) (locs1 : List Loc), bz_H G s (bz_wi σ a 4 v) H1 locs1 → W p l e R s m args below meth c H1 locs1 cells slots Q (F0 m (pc + 3) ls rest)) : W p l e R s m args below meth c H locs cells slots Q (F0 m pc ls (.int v :: .ref a :: rest)) :=
  bz_put C h ha (by decide) (ci := 4) (fs := [bz_rv (σ.2 a 0), bz_rv (σ.2 a 1), bz_rv (σ.2 a 2), bz_rv (σ.2 a 3), .int (σ.1 a 4), .int (σ.1 a 5)]) rfl rfl 4 (by decide) hin tyX4 tyX4_ok nmX4 hl rfl rfl rfl (by simp) (by first | rfl | simp [bz_cE, upd]) hdg kk
theorem gf_4_5 {a index : Nat} (C : bz_C p s m c args cc nL own Ts G) (h : bz_H G s σ H locs) (ha : bz_k G a = (5, 0)) (hin : ∀ w ∈ wsX40, w ∈ Ts) (hl : Cond.fieldLink own index "StarterBay$Timetable" "next" "I" ∈ Ts) (hdg : decode cc pc = .ok (.getfield index, 3)) (kk : W p l e R s m args below meth c H locs cells slots Q (F0 m (pc + 3) ls (.int (σ.1 a 5) :: rest))) : W p l e R s m args below meth c H locs cells slots Q (F0 m pc ls (.ref a :: rest)) :=
  bz_get C h ha (by decide) (ci := 4) (fs := [bz_rv (σ.2 a 0), bz_rv (σ.2 a 1), bz_rv (σ.2 a 2), bz_rv (σ.2 a 3), .int (σ.1 a 4), .int (σ.1 a 5)]) rfl rfl 5 (by decide) hin hl (v := .int (σ.1 a 5)) rfl hdg kk
theorem pf_4_5 {a index : Nat} (C : bz_C p s m c args cc nL own Ts G) (h : bz_H G s σ H locs) (ha : bz_k G a = (5, 0)) (hin : ∀ w ∈ wsX40, w ∈ Ts) (hl : Cond.fieldLink own index "StarterBay$Timetable" "next" "I" ∈ Ts) {v : Int32} (hdg : decode cc pc = .ok (.putfield index, 3)) (kk : ∀ (H1 : Heap) (locs1 : List Loc), bz_H G s (bz_wi σ a 5 v) H1 locs1 → W p l e R s m args below meth c H1 locs1 cells slots Q (F0 m (pc + 3) ls rest)) : W p l e R s m args below meth c H locs cells slots Q (F0 m pc ls (.int v :: .ref a :: rest)) :=
  bz_put C h ha (by decide) (ci := 4) (fs := [bz_rv (σ.2 a 0), bz_rv (σ.2 a 1), bz_rv (σ.2 a 2), bz_rv (σ.2 a 3), .int (σ.1 a 4), .int (σ.1 a 5)]) rfl rfl 5 (by decide) hin tyX4 tyX4_ok nmX4 hl rfl rfl rfl (by simp) (by first | rfl | simp [bz_cE, upd]) hdg kk
theorem gf_5_0 {a index : Nat} (C : bz_C p s m c args cc nL own Ts G) (h : bz_H G s σ H locs) (ha : bz_k G a = (6, 0)) (hin : ∀ w ∈ wsX50, w ∈ Ts) (hl : Cond.fieldLink own index "StarterBay$TimetableText" "characters" "[C" ∈ Ts) (hdg : decode cc pc = .ok (.getfield index, 3)) (kk : bz_k G (σ.2 a 0) = (10, 80) → W p l e R s m args below meth c H locs cells slots Q (F0 m (pc + 3) ls (.ref (σ.2 a 0) :: rest))) : W p l e R s m args below meth c H locs cells slots Q (F0 m pc ls (.ref a :: rest)) := by
  have hk := bz_R_5_0 h.2.1 ha
  refine bz_get C h ha (by decide) (ci := 5) (fs := [bz_rv (σ.2 a 0), .int (σ.1 a 1), .int (σ.1 a 2), .int (σ.1 a 3), .int (σ.1 a 4), .int (σ.1 a 5), .int (σ.1 a 6)]) rfl rfl 0 (by decide) hin hl (v := bz_rv (σ.2 a 0)) rfl hdg ?_
  have e1 := bz_rv0 C.2.2.2.2.2.1.2.2.2 hk (by decide)
  rw [e1]
  exact kk hk
theorem gf_5_1 {a index : Nat} (C : bz_C p s m c args cc nL own Ts G) (h : bz_H G s σ H locs) (ha : bz_k G a = (6, 0)) (hin : ∀ w ∈ wsX50, w ∈ Ts) (hl : Cond.fieldLink own index "StarterBay$TimetableText" "length" "I" ∈ Ts) (hdg : decode cc pc = .ok (.getfield index, 3)) (kk : W p l e R s m args below meth c H locs cells slots Q (F0 m (pc + 3) ls (.int (σ.1 a 1) :: rest))) : W p l e R s m args below meth c H locs cells slots Q (F0 m pc ls (.ref a :: rest)) :=
  bz_get C h ha (by decide) (ci := 5) (fs := [bz_rv (σ.2 a 0), .int (σ.1 a 1), .int (σ.1 a 2), .int (σ.1 a 3), .int (σ.1 a 4), .int (σ.1 a 5), .int (σ.1 a 6)]) rfl rfl 1 (by decide) hin hl (v := .int (σ.1 a 1)) rfl hdg kk
theorem pf_5_1 {a index : Nat} (C : bz_C p s m c args cc nL own Ts G) (h : bz_H G s σ H locs) (ha : bz_k G a = (6, 0)) (hin : ∀ w ∈ wsX50, w ∈ Ts) (hl : Cond.fieldLink own index "StarterBay$TimetableText" "length" "I" ∈ Ts) {v : Int32} (hdg : decode cc pc = .ok (.putfield index, 3)) (kk : ∀ (H1 : Heap) (locs1 : List Loc), bz_H G s (bz_wi σ a 1 v) H1 locs1 → W p l e R s m args below meth c H1 locs1 cells slots Q (F0 m (pc + 3) ls rest)) : W p l e R s m args below meth c H locs cells slots Q (F0 m pc ls (.int v :: .ref a :: rest)) :=
  bz_put C h ha (by decide) (ci := 5) (fs := [bz_rv (σ.2 a 0), .int (σ.1 a 1), .int (σ.1 a 2), .int (σ.1 a 3), .int (σ.1 a 4), .int (σ.1 a 5), .int (σ.1 a 6)]) rfl rfl 1 (by decide) hin tyX5 tyX5_ok nmX5 hl rfl rfl rfl (by simp) (by first | rfl | simp [bz_cE, upd]) hdg kk
theorem gf_5_2 {a index : Nat} (C : bz_C p s m c args cc nL own Ts G) (h : bz_H G s σ H locs) (ha : bz_k G a = (6, 0)) (hin : ∀ w ∈ wsX50, w ∈ Ts) (hl : Cond.fieldLink own index "StarterBay$TimetableText" "at" "I" ∈ Ts) (hdg : decode cc pc = .ok (.getfield index, 3)) (kk : W p l e R s m args below meth c H locs cells slots Q (F0 m (pc + 3) ls (.int (σ.1 a 2) :: rest))) : W p l e R s m args below meth c H locs cells slots Q (F0 m pc ls (.ref a :: rest)) :=
  bz_get C h ha (by decide) (ci := 5) (fs := [bz_rv (σ.2 a 0), .int (σ.1 a 1), .int (σ.1 a 2), .int (σ.1 a 3), .int (σ.1 a 4), .int (σ.1 a 5), .int (σ.1 a 6)]) rfl rfl 2 (by decide) hin hl (v := .int (σ.1 a 2)) rfl hdg kk
theorem pf_5_2 {a index : Nat} (C : bz_C p s m c args cc nL own Ts G) (h : bz_H G s σ H locs) (ha : bz_k G a = (6, 0)) (hin : ∀ w ∈ wsX50, w ∈ Ts) (hl : Cond.fieldLink own index "StarterBay$TimetableText" "at" "I" ∈ Ts) {v : Int32} (hdg : decode cc pc = .ok (.putfield index, 3)) (kk : ∀ (H1 : Heap) (locs1 : List Loc), bz_H G s (bz_wi σ a 2 v) H1 locs1 → W p l e R s m args below meth c H1 locs1 cells slots Q (F0 m (pc + 3) ls rest)) : W p l e R s m args below meth c H locs cells slots Q (F0 m pc ls (.int v :: .ref a :: rest)) :=
  bz_put C h ha (by decide) (ci := 5) (fs := [bz_rv (σ.2 a 0), .int (σ.1 a 1), .int (σ.1 a 2), .int (σ.1 a 3), .int (σ.1 a 4), .int (σ.1 a 5), .int (σ.1 a 6)]) rfl rfl 2 (by decide) hin tyX5 tyX5_ok nmX5 hl rfl rfl rfl (by simp) (by first | rfl | simp [bz_cE, upd]) hdg kk
theorem gf_5_3 {a index : Nat} (C : bz_C p s m c args cc nL own Ts G) (h : bz_H G s σ H locs) (ha : bz_k G a = (6, 0)) (hin : ∀ w ∈ wsX50, w ∈ Ts) (hl : Cond.fieldLink own index "StarterBay$TimetableText" "time" "I" ∈ Ts) (hdg : decode cc pc = .ok (.getfield index, 3)) (kk : W p l e R s m args below meth c H locs cells slots Q (F0 m (pc + 3) ls (.int (σ.1 a 3) :: rest))) : W p l e R s m args below meth c H locs cells slots Q (F0 m pc ls (.ref a :: rest)) :=
  bz_get C h ha (by decide) (ci := 5) (fs := [bz_rv (σ.2 a 0), .int (σ.1 a 1), .int (σ.1 a 2), .int (σ.1 a 3), .int (σ.1 a 4), .int (σ.1 a 5), .int (σ.1 a 6)]) rfl rfl 3 (by decide) hin hl (v := .int (σ.1 a 3)) rfl hdg kk
theorem pf_5_3 {a index : Nat} (C : bz_C p s m c args cc nL own Ts G) (h : bz_H G s σ H locs) (ha : bz_k G a = (6, 0)) (hin : ∀ w ∈ wsX50, w ∈ Ts) (hl : Cond.fieldLink own index "StarterBay$TimetableText" "time" "I" ∈ Ts) {v : Int32} (hdg : decode cc pc = .ok (.putfield index, 3)) (kk : ∀ (H1 : Heap) (locs1 : List Loc), bz_H G s (bz_wi σ a 3 v) H1 locs1 → W p l e R s m args below meth c H1 locs1 cells slots Q (F0 m (pc + 3) ls rest)) : W p l e R s m args below meth c H locs cells slots Q (F0 m pc ls (.int v :: .ref a :: rest)) :=
  bz_put C h ha (by decide) (ci := 5) (fs := [bz_rv (σ.2 a 0), .int (σ.1 a 1), .int (σ.1 a 2), .int (σ.1 a 3), .int (σ.1 a 4), .int (σ.1 a 5), .int (σ.1 a 6)]) rfl rfl 3 (by decide) hin tyX5 tyX5_ok nmX5 hl rfl rfl rfl (by simp) (by first | rfl | simp [bz_cE, upd]) hdg kk
theorem gf_5_4 {a index : Nat} (C : bz_C p s m c args cc nL own Ts G) (h : bz_H G s σ H locs) (ha : bz_k G a = (6, 0)) (hin : ∀ w ∈ wsX50, w ∈ Ts) (hl : Cond.fieldLink own index "StarterBay$TimetableText" "order" "I" ∈ Ts) (hdg : decode cc pc = .ok (.getfield index, 3)) (kk : W p l e R s m args below meth c H locs cells slots Q (F0 m (pc + 3) ls (.int (σ.1 a 4) :: rest))) : W p l e R s m args below meth c H locs cells slots Q (F0 m pc ls (.ref a :: rest)) :=
  bz_get C h ha (by decide) (ci := 5) (fs := [bz_rv (σ.2 a 0), .int (σ.1 a 1), .int (σ.1 a 2), .int (σ.1 a 3), .int (σ.1 a 4), .int (σ.1 a 5), .int (σ.1 a 6)]) rfl rfl 4 (by decide) hin hl (v := .int (σ.1 a 4)) rfl hdg kk
theorem pf_5_4 {a index : Nat} (C : bz_C p s m c args cc nL own Ts G) (h : bz_H G s σ H locs) (ha : bz_k G a = (6, 0)) (hin : ∀ w ∈ wsX50, w ∈ Ts) (hl : Cond.fieldLink own index "StarterBay$TimetableText" "order" "I" ∈ Ts) {v : Int32} (hdg : decode cc pc = .ok (.putfield index, 3)) (kk : ∀ (H1 : Heap) (locs1 : List Loc), bz_H G s (bz_wi σ a 4 v) H1 locs1 → W p l e R s m args below meth c H1 locs1 cells slots Q (F0 m (pc + 3) ls rest)) : W p l e R s m args below meth c H locs cells slots Q (F0 m pc ls (.int v :: .ref a :: rest)) :=
  bz_put C h ha (by decide) (ci := 5) (fs := [bz_rv (σ.2 a 0), .int (σ.1 a 1), .int (σ.1 a 2), .int (σ.1 a 3), .int (σ.1 a 4), .int (σ.1 a 5), .int (σ.1 a 6)]) rfl rfl 4 (by decide) hin tyX5 tyX5_ok nmX5 hl rfl rfl rfl (by simp) (by first | rfl | simp [bz_cE, upd]) hdg kk
theorem gf_5_5 {a index : Nat} (C : bz_C p s m c args cc nL own Ts G) (h : bz_H G s σ H locs) (ha : bz_k G a = (6, 0)) (hin : ∀ w ∈ wsX50, w ∈ Ts) (hl : Cond.fieldLink own index "StarterBay$TimetableText" "first" "I" ∈ Ts) (hdg : decode cc pc = .ok (.getfield index, 3)) (kk : W p l e R s m args below meth c H locs cells slots Q (F0 m (pc + 3) ls (.int (σ.1 a 5) :: rest))) : W p l e R s m args below meth c H locs cells slots Q (F0 m pc ls (.ref a :: rest)) :=
  bz_get C h ha (by decide) (ci := 5) (fs := [bz_rv (σ.2 a 0), .int (σ.1 a 1), .int (σ.1 a 2), .int (σ.1 a 3), .int (σ.1 a 4), .int (σ.1 a 5), .int (σ.1 a 6)]) rfl rfl 5 (by decide) hin hl (v := .int (σ.1 a 5)) rfl hdg kk
theorem pf_5_5 {a index : Nat} (C : bz_C p s m c args cc nL own Ts G) (h : bz_H G s σ H locs) (ha : bz_k G a = (6, 0)) (hin : ∀ w ∈ wsX50, w ∈ Ts) (hl : Cond.fieldLink own index "StarterBay$TimetableText" "first" "I" ∈ Ts) {v : Int32} (hdg : decode cc pc = .ok (.putfield index, 3)) (kk : ∀ (H1 : Heap) (locs1 : List Loc), bz_H G s (bz_wi σ a 5 v) H1 locs1 → W p l e R s m args below meth c H1 locs1 cells slots Q (F0 m (pc + 3) ls rest)) : W p l e R s m args below meth c H locs cells slots Q (F0 m pc ls (.int v :: .ref a :: rest)) :=
  bz_put C h ha (by decide) (ci := 5) (fs := [bz_rv (σ.2 a 0), .int (σ.1 a 1), .int (σ.1 a 2), .int (σ.1 a 3), .int (σ.1 a 4), .int (σ.1 a 5), .int (σ.1 a 6)]) rfl rfl 5 (by decide) hin tyX5 tyX5_ok nmX5 hl rfl rfl rfl (by simp) (by first | rfl | simp [bz_cE, upd]) hdg kk
theorem gf_5_6 {a index : Nat} (C : bz_C p s m c args cc nL own Ts G) (h : bz_H G s σ H locs) (ha : bz_k G a = (6, 0)) (hin : ∀ w ∈ wsX50, w ∈ Ts) (hl : Cond.fieldLink own index "StarterBay$TimetableText" "second" "I" ∈ Ts) (hdg : decode cc pc = .ok (.getfield index, 3)) (kk : W p l e R s m args below meth c H locs cells slots Q (F0 m (pc + 3) ls (.int (σ.1 a 6) :: rest))) : W p l e R s m args below meth c H locs cells slots Q (F0 m pc ls (.ref a :: rest)) :=
  bz_get C h ha (by decide) (ci := 5) (fs := [bz_rv (σ.2 a 0), .int (σ.1 a 1), .int (σ.1 a 2), .int (σ.1 a 3), .int (σ.1 a 4), .int (σ.1 a 5), .int (σ.1 a 6)]) rfl rfl 6 (by decide) hin hl (v := .int (σ.1 a 6)) rfl hdg kk
theorem pf_5_6 {a index : Nat} (C : bz_C p s m c args cc nL own Ts G) (h : bz_H G s σ H locs) (ha : bz_k G a = (6, 0)) (hin : ∀ w ∈ wsX50, w ∈ Ts) (hl : Cond.fieldLink own index "StarterBay$TimetableText" "second" "I" ∈ Ts) {v : Int32} (hdg : decode cc pc = .ok (.putfield index, 3)) (kk : ∀ (H1 : Heap) (locs1 : List Loc), bz_H G s (bz_wi σ a 6 v) H1 locs1 → W p l e R s m args below meth c H1 locs1 cells slots Q (F0 m (pc + 3) ls rest)) : W p l e R s m args below meth c H locs cells slots Q (F0 m pc ls (.int v :: .ref a :: rest)) :=
  bz_put C h ha (by decide) (ci := 5) (fs := [bz_rv (σ.2 a 0), .int (σ.1 a 1), .int (σ.1 a 2), .int (σ.1 a 3), .int (σ.1 a 4), .int (σ.1 a 5), .int (σ.1 a 6)]) rfl rfl 6 (by decide) hin tyX5 tyX5_ok nmX5 hl rfl rfl rfl (by simp) (by first | rfl | simp [bz_cE, upd]) hdg kk
theorem gf_6_0 {a index : Nat} (C : bz_C p s m c args cc nL own Ts G) (h : bz_H G s σ H locs) (ha : bz_k G a = (7, 0)) (hin : ∀ w ∈ wsX60, w ∈ Ts) (hl : Cond.fieldLink own index "StarterBay" "now" "LStarterBay$State;" ∈ Ts) (hdg : decode cc pc = .ok (.getfield index, 3)) (kk : bz_k G (σ.2 a 0) = (4, 0) → W p l e R s m args below meth c H locs cells slots Q (F0 m (pc + 3) ls (.ref (σ.2 a 0) :: rest))) : W p l e R s m args below meth c H locs cells slots Q (F0 m pc ls (.ref a :: rest)) := by
  have hk := bz_R_6_0 h.2.1 ha
  refine bz_get C h ha (by decide) (ci := 6) (fs := [bz_rv (σ.2 a 0), bz_rv (σ.2 a 1), bz_rv (σ.2 a 2), .int (σ.1 a 3), bz_rv (σ.2 a 4), bz_rv (σ.2 a 5), bz_rv (σ.2 a 6), .int (σ.1 a 7)]) rfl rfl 0 (by decide) hin hl (v := bz_rv (σ.2 a 0)) rfl hdg ?_
  have e1 := bz_rv0 C.2.2.2.2.2.1.2.2.2 hk (by decide)
  rw [e1]
  exact kk hk
theorem gf_6_1 {a index : Nat} (C : bz_C p s m c args cc nL own Ts G) (h : bz_H G s σ H locs) (ha : bz_k G a = (7, 0)) (hin : ∀ w ∈ wsX60, w ∈ Ts) (hl : Cond.fieldLink own index "StarterBay" "history" "LStarterBay$History;" ∈ Ts) (hdg : decode cc pc = .ok (.getfield index, 3)) (kk : bz_k G (σ.2 a 1) = (2, 0) → W p l e R s m args below meth c H locs cells slots Q (F0 m (pc + 3) ls (.ref (σ.2 a 1) :: rest))) : W p l e R s m args below meth c H locs cells slots Q (F0 m pc ls (.ref a :: rest)) := by
  have hk := bz_R_6_1 h.2.1 ha
  refine bz_get C h ha (by decide) (ci := 6) (fs := [bz_rv (σ.2 a 0), bz_rv (σ.2 a 1), bz_rv (σ.2 a 2), .int (σ.1 a 3), bz_rv (σ.2 a 4), bz_rv (σ.2 a 5), bz_rv (σ.2 a 6), .int (σ.1 a 7)]) rfl rfl 1 (by decide) hin hl (v := bz_rv (σ.2 a 1)) rfl hdg ?_
  have e1 := bz_rv0 C.2.2.2.2.2.1.2.2.2 hk (by decide)
  rw [e1]
  exact kk hk
theorem gf_6_2 {a index : Nat} (C : bz_C p s m c args cc nL own Ts G) (h : bz_H G s σ H locs) (ha : bz_k G a = (7, 0)) (hin : ∀ w ∈ wsX60, w ∈ Ts) (hl : Cond.fieldLink own index "StarterBay" "snapshot" "LStarterBay$State;" ∈ Ts) (hdg : decode cc pc = .ok (.getfield index, 3)) (kk : bz_k G (σ.2 a 2) = (4, 0) → W p l e R s m args below meth c H locs cells slots Q (F0 m (pc + 3) ls (.ref (σ.2 a 2) :: rest))) : W p l e R s m args below meth c H locs cells slots Q (F0 m pc ls (.ref a :: rest)) := by
  have hk := bz_R_6_2 h.2.1 ha
  refine bz_get C h ha (by decide) (ci := 6) (fs := [bz_rv (σ.2 a 0), bz_rv (σ.2 a 1), bz_rv (σ.2 a 2), .int (σ.1 a 3), bz_rv (σ.2 a 4), bz_rv (σ.2 a 5), bz_rv (σ.2 a 6), .int (σ.1 a 7)]) rfl rfl 2 (by decide) hin hl (v := bz_rv (σ.2 a 2)) rfl hdg ?_
  have e1 := bz_rv0 C.2.2.2.2.2.1.2.2.2 hk (by decide)
  rw [e1]
  exact kk hk
theorem gf_6_3 {a index : Nat} (C : bz_C p s m c args cc nL own Ts G) (h : bz_H G s σ H locs) (ha : bz_k G a = (7, 0)) (hin : ∀ w ∈ wsX60, w ∈ Ts) (hl : Cond.fieldLink own index "StarterBay" "hasSnapshot" "Z" ∈ Ts) (hdg : decode cc pc = .ok (.getfield index, 3)) (kk : W p l e R s m args below meth c H locs cells slots Q (F0 m (pc + 3) ls (.int (σ.1 a 3) :: rest))) : W p l e R s m args below meth c H locs cells slots Q (F0 m pc ls (.ref a :: rest)) :=
  bz_get C h ha (by decide) (ci := 6) (fs := [bz_rv (σ.2 a 0), bz_rv (σ.2 a 1), bz_rv (σ.2 a 2), .int (σ.1 a 3), bz_rv (σ.2 a 4), bz_rv (σ.2 a 5), bz_rv (σ.2 a 6), .int (σ.1 a 7)]) rfl rfl 3 (by decide) hin hl (v := .int (σ.1 a 3)) rfl hdg kk
theorem pf_6_3 {a index : Nat} (C : bz_C p s m c args cc nL own Ts G) (h : bz_H G s σ H locs) (ha : bz_k G a = (7, 0)) (hin : ∀ w ∈ wsX60, w ∈ Ts) (hl : Cond.fieldLink own index "StarterBay" "hasSnapshot" "Z" ∈ Ts) {v : Int32} (hv : ib_ v = true) (hdg : decode cc pc = .ok (.putfield index, 3)) (kk : ∀ (H1 : Heap) (locs1 : List Loc), bz_H G s (bz_wi σ a 3 v) H1 locs1 → W p l e R s m args below meth c H1 locs1 cells slots Q (F0 m (pc + 3) ls rest)) : W p l e R s m args below meth c H locs cells slots Q (F0 m pc ls (.int v :: .ref a :: rest)) :=
  bz_put C h ha (by decide) (ci := 6) (fs := [bz_rv (σ.2 a 0), bz_rv (σ.2 a 1), bz_rv (σ.2 a 2), .int (σ.1 a 3), bz_rv (σ.2 a 4), bz_rv (σ.2 a 5), bz_rv (σ.2 a 6), .int (σ.1 a 7)]) rfl rfl 3 (by decide) hin tyX6 tyX6_ok nmX6 hl rfl (ib_u hv).1 (ib_u hv).2 (by simp) (by first | rfl | simp [bz_cE, upd]) hdg kk
theorem gf_6_4 {a index : Nat} (C : bz_C p s m c args cc nL own Ts G) (h : bz_H G s σ H locs) (ha : bz_k G a = (7, 0)) (hin : ∀ w ∈ wsX60, w ∈ Ts) (hl : Cond.fieldLink own index "StarterBay" "text" "LStarterBay$TimetableText;" ∈ Ts) (hdg : decode cc pc = .ok (.getfield index, 3)) (kk : bz_k G (σ.2 a 4) = (6, 0) → W p l e R s m args below meth c H locs cells slots Q (F0 m (pc + 3) ls (.ref (σ.2 a 4) :: rest))) : W p l e R s m args below meth c H locs cells slots Q (F0 m pc ls (.ref a :: rest)) := by
  have hk := bz_R_6_4 h.2.1 ha
  refine bz_get C h ha (by decide) (ci := 6) (fs := [bz_rv (σ.2 a 0), bz_rv (σ.2 a 1), bz_rv (σ.2 a 2), .int (σ.1 a 3), bz_rv (σ.2 a 4), bz_rv (σ.2 a 5), bz_rv (σ.2 a 6), .int (σ.1 a 7)]) rfl rfl 4 (by decide) hin hl (v := bz_rv (σ.2 a 4)) rfl hdg ?_
  have e1 := bz_rv0 C.2.2.2.2.2.1.2.2.2 hk (by decide)
  rw [e1]
  exact kk hk
theorem gf_6_5 {a index : Nat} (C : bz_C p s m c args cc nL own Ts G) (h : bz_H G s σ H locs) (ha : bz_k G a = (7, 0)) (hin : ∀ w ∈ wsX60, w ∈ Ts) (hl : Cond.fieldLink own index "StarterBay" "draft" "LStarterBay$Timetable;" ∈ Ts) (hdg : decode cc pc = .ok (.getfield index, 3)) (kk : bz_k G (σ.2 a 5) = (5, 0) → W p l e R s m args below meth c H locs cells slots Q (F0 m (pc + 3) ls (.ref (σ.2 a 5) :: rest))) : W p l e R s m args below meth c H locs cells slots Q (F0 m pc ls (.ref a :: rest)) := by
  have hk := bz_R_6_5 h.2.1 ha
  refine bz_get C h ha (by decide) (ci := 6) (fs := [bz_rv (σ.2 a 0), bz_rv (σ.2 a 1), bz_rv (σ.2 a 2), .int (σ.1 a 3), bz_rv (σ.2 a 4), bz_rv (σ.2 a 5), bz_rv (σ.2 a 6), .int (σ.1 a 7)]) rfl rfl 5 (by decide) hin hl (v := bz_rv (σ.2 a 5)) rfl hdg ?_
  have e1 := bz_rv0 C.2.2.2.2.2.1.2.2.2 hk (by decide)
  rw [e1]
  exact kk hk
theorem gf_6_6 {a index : Nat} (C : bz_C p s m c args cc nL own Ts G) (h : bz_H G s σ H locs) (ha : bz_k G a = (7, 0)) (hin : ∀ w ∈ wsX60, w ∈ Ts) (hl : Cond.fieldLink own index "StarterBay" "line" "[I" ∈ Ts) (hdg : decode cc pc = .ok (.getfield index, 3)) (kk : bz_k G (σ.2 a 6) = (9, 8) → W p l e R s m args below meth c H locs cells slots Q (F0 m (pc + 3) ls (.ref (σ.2 a 6) :: rest))) : W p l e R s m args below meth c H locs cells slots Q (F0 m pc ls (.ref a :: rest)) := by
  have hk := bz_R_6_6 h.2.1 ha
  refine bz_get C h ha (by decide) (ci := 6) (fs := [bz_rv (σ.2 a 0), bz_rv (σ.2 a 1), bz_rv (σ.2 a 2), .int (σ.1 a 3), bz_rv (σ.2 a 4), bz_rv (σ.2 a 5), bz_rv (σ.2 a 6), .int (σ.1 a 7)]) rfl rfl 6 (by decide) hin hl (v := bz_rv (σ.2 a 6)) rfl hdg ?_
  have e1 := bz_rv0 C.2.2.2.2.2.1.2.2.2 hk (by decide)
  rw [e1]
  exact kk hk
theorem gf_6_7 {a index : Nat} (C : bz_C p s m c args cc nL own Ts G) (h : bz_H G s σ H locs) (ha : bz_k G a = (7, 0)) (hin : ∀ w ∈ wsX60, w ∈ Ts) (hl : Cond.fieldLink own index "StarterBay" "reason" "I" ∈ Ts) (hdg : decode cc pc = .ok (.getfield index, 3)) (kk : W p l e R s m args below meth c H locs cells slots Q (F0 m (pc + 3) ls (.int (σ.1 a 7) :: rest))) : W p l e R s m args below meth c H locs cells slots Q (F0 m pc ls (.ref a :: rest)) :=
  bz_get C h ha (by decide) (ci := 6) (fs := [bz_rv (σ.2 a 0), bz_rv (σ.2 a 1), bz_rv (σ.2 a 2), .int (σ.1 a 3), bz_rv (σ.2 a 4), bz_rv (σ.2 a 5), bz_rv (σ.2 a 6), .int (σ.1 a 7)]) rfl rfl 7 (by decide) hin hl (v := .int (σ.1 a 7)) rfl hdg kk
theorem pf_6_7 {a index : Nat} (C : bz_C p s m c args cc nL own Ts G) (h : bz_H G s σ H locs) (ha : bz_k G a = (7, 0)) (hin : ∀ w ∈ wsX60, w ∈ Ts) (hl : Cond.fieldLink own index "StarterBay" "reason" "I" ∈ Ts) {v : Int32} (hdg : decode cc pc = .ok (.putfield index, 3)) (kk : ∀ (H1 : Heap) (locs1 : List Loc), bz_H G s (bz_wi σ a 7 v) H1 locs1 → W p l e R s m args below meth c H1 locs1 cells slots Q (F0 m (pc + 3) ls rest)) : W p l e R s m args below meth c H locs cells slots Q (F0 m pc ls (.int v :: .ref a :: rest)) :=
  bz_put C h ha (by decide) (ci := 6) (fs := [bz_rv (σ.2 a 0), bz_rv (σ.2 a 1), bz_rv (σ.2 a 2), .int (σ.1 a 3), bz_rv (σ.2 a 4), bz_rv (σ.2 a 5), bz_rv (σ.2 a 6), .int (σ.1 a 7)]) rfl rfl 7 (by decide) hin tyX6 tyX6_ok nmX6 hl rfl rfl rfl (by simp) (by first | rfl | simp [bz_cE, upd]) hdg kk
end BF
