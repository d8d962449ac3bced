section BJ
variable {p : Program} {l : Launch} {e : Env} {R : Room} {s : State} {m : MethodId} {args : Array Value} {below : List Frame} {meth : Method} {c : Code} {H : Heap} {locs : List Loc} {cells slots : Nat} {Q : State → Prop}
variable {cc : ByteArray} {nL pc : Nat} {ls : Array Slot} {rest : List Value} {own : String} {Ts : List Cond} {G : bz_G} {σ : bz_W} {sz : Nat}
theorem pF_0_0 {a index : Nat} (C : bz_C p s m c args cc nL own Ts G) (hown : "StarterBay$EventLog" = own) (hnm2 : meth.name = "<init>") (h : bz_HU G s σ H locs sz) (ha : bz_k G a = (1, 0)) (hlt : a < sz) (hin : ∀ w ∈ wsX00, w ∈ Ts) (hl : Cond.fieldLink own index "StarterBay$EventLog" "time" "[I" ∈ Ts) {r : Nat} (hr : r ≠ 0) (hdg : decode cc pc = .ok (.putfield index, 3)) (kk : ∀ (H1 : Heap) (locs1 : List Loc), bz_HU G s (bz_wr σ a 0 r) H1 locs1 sz → W p l e R s m args below meth c H1 locs1 cells slots Q (F0 m (pc + 3) ls rest)) : W p l e R s m args below meth c H locs cells slots Q (F0 m pc ls (.ref r :: .ref a :: rest)) :=
  bz_putF C hnm2 h ha (by simp) hlt (ci := 0) (fs := [bz_rv (σ.2 a 0), bz_rv (σ.2 a 1), bz_rv (σ.2 a 2), .int (σ.1 a 3)]) rfl rfl 0 (by decide) hin tyX0 tyX0_ok nmX0 hl rfl hown rfl rfl (by simp) (τ := bz_wr σ a 0 r) bz_wr_o (by rw [← bz_rs (σ := σ) (a := a) (k := 0) hr]; simp [bz_cE, bz_wr]) hdg kk
theorem gU_0_0 {a index : Nat} (C : bz_C p s m c args cc nL own Ts G) (h : bz_HU G s σ H locs sz) (ha : bz_k G a = (1, 0)) (hlt : a < sz) (hin : ∀ w ∈ wsX00, w ∈ Ts) (hl : Cond.fieldLink own index "StarterBay$EventLog" "time" "[I" ∈ Ts) {r : Nat} (hv : σ.2 a 0 = r) (hr : r ≠ 0) (hdg : decode cc pc = .ok (.getfield index, 3)) (kk : W p l e R s m args below meth c H locs cells slots Q (F0 m (pc + 3) ls (.ref r :: rest))) : W p l e R s m args below meth c H locs cells slots Q (F0 m pc ls (.ref a :: rest)) :=
  bz_getU C h ha (by simp) hlt (ci := 0) (fs := [bz_rv (σ.2 a 0), bz_rv (σ.2 a 1), bz_rv (σ.2 a 2), .int (σ.1 a 3)]) rfl rfl 0 (by decide) hin hl (v := .ref r) (by rw [← bz_r1 hr, ← hv]; rfl) hdg kk
theorem pF_0_1 {a index : Nat} (C : bz_C p s m c args cc nL own Ts G) (hown : "StarterBay$EventLog" = own) (hnm2 : meth.name = "<init>") (h : bz_HU G s σ H locs sz) (ha : bz_k G a = (1, 0)) (hlt : a < sz) (hin : ∀ w ∈ wsX00, w ∈ Ts) (hl : Cond.fieldLink own index "StarterBay$EventLog" "motor" "[I" ∈ Ts) {r : Nat} (hr : r ≠ 0) (hdg : decode cc pc = .ok (.putfield index, 3)) (kk : ∀ (H1 : Heap) (locs1 : List Loc), bz_HU G s (bz_wr σ a 1 r) H1 locs1 sz → W p l e R s m args below meth c H1 locs1 cells slots Q (F0 m (pc + 3) ls rest)) : W p l e R s m args below meth c H locs cells slots Q (F0 m pc ls (.ref r :: .ref a :: rest)) :=
  bz_putF C hnm2 h ha (by simp) hlt (ci := 0) (fs := [bz_rv (σ.2 a 0), bz_rv (σ.2 a 1), bz_rv (σ.2 a 2), .int (σ.1 a 3)]) rfl rfl 1 (by decide) hin tyX0 tyX0_ok nmX0 hl rfl hown rfl rfl (by simp) (τ := bz_wr σ a 1 r) bz_wr_o (by rw [← bz_rs (σ := σ) (a := a) (k := 1) hr]; simp [bz_cE, bz_wr]) hdg kk
theorem gU_0_1 {a index : Nat} (C : bz_C p s m c args cc nL own Ts G) (h : bz_HU G s σ H locs sz) (ha : bz_k G a = (1, 0)) (hlt : a < sz) (hin : ∀ w ∈ wsX00, w ∈ Ts) (hl : Cond.fieldLink own index "StarterBay$EventLog" "motor" "[I" ∈ Ts) {r : Nat} (hv : σ.2 a 1 = r) (hr : r ≠ 0) (hdg : decode cc pc = .ok (.getfield index, 3)) (kk : W p l e R s m args below meth c H locs cells slots Q (F0 m (pc + 3) ls (.ref r :: rest))) : W p l e R s m args below meth c H locs cells slots Q (F0 m pc ls (.ref a :: rest)) :=
  bz_getU C h ha (by simp) hlt (ci := 0) (fs := [bz_rv (σ.2 a 0), bz_rv (σ.2 a 1), bz_rv (σ.2 a 2), .int (σ.1 a 3)]) rfl rfl 1 (by decide) hin hl (v := .ref r) (by rw [← bz_r1 hr, ← hv]; rfl) hdg kk
theorem pF_0_2 {a index : Nat} (C : bz_C p s m c args cc nL own Ts G) (hown : "StarterBay$EventLog" = own) (hnm2 : meth.name = "<init>") (h : bz_HU G s σ H locs sz) (ha : bz_k G a = (1, 0)) (hlt : a < sz) (hin : ∀ w ∈ wsX00, w ∈ Ts) (hl : Cond.fieldLink own index "StarterBay$EventLog" "kind" "[I" ∈ Ts) {r : Nat} (hr : r ≠ 0) (hdg : decode cc pc = .ok (.putfield index, 3)) (kk : ∀ (H1 : Heap) (locs1 : List Loc), bz_HU G s (bz_wr σ a 2 r) H1 locs1 sz → W p l e R s m args below meth c H1 locs1 cells slots Q (F0 m (pc + 3) ls rest)) : W p l e R s m args below meth c H locs cells slots Q (F0 m pc ls (.ref r :: .ref a :: rest)) :=
  bz_putF C hnm2 h ha (by simp) hlt (ci := 0) (fs := [bz_rv (σ.2 a 0), bz_rv (σ.2 a 1), bz_rv (σ.2 a 2), .int (σ.1 a 3)]) rfl rfl 2 (by decide) hin tyX0 tyX0_ok nmX0 hl rfl hown rfl rfl (by simp) (τ := bz_wr σ a 2 r) bz_wr_o (by rw [← bz_rs (σ := σ) (a := a) (k := 2) hr]; simp [bz_cE, bz_wr]) hdg kk
theorem gU_0_2 {a index : Nat} (C : bz_C p s m c args cc nL own Ts G) (h : bz_HU G s σ H locs sz) (ha : bz_k G a = (1, 0)) (hlt : a < sz) (hin : ∀ w ∈ wsX00, w ∈ Ts) (hl : Cond.fieldLink own index "StarterBay$EventLog" "kind" "[I" ∈ Ts) {r : Nat} (hv : σ.2 a 2 = r) (hr : r ≠ 0) (hdg : decode cc pc = .ok (.getfield index, 3)) (kk : W p l e R s m args below meth c H locs cells slots Q (F0 m (pc + 3) ls (.ref r :: rest))) : W p l e R s m args below meth c H locs cells slots Q (F0 m pc ls (.ref a :: rest)) :=
  bz_getU C h ha (by simp) hlt (ci := 0) (fs := [bz_rv (σ.2 a 0), bz_rv (σ.2 a 1), bz_rv (σ.2 a 2), .int (σ.1 a 3)]) rfl rfl 2 (by decide) hin hl (v := .ref r) (by rw [← bz_r1 hr, ← hv]; rfl) hdg kk
theorem pF_1_0 {a index : Nat} (C : bz_C p s m c args cc nL own Ts G) (hown : "StarterBay$History" = own) (hnm2 : meth.name = "<init>") (h : bz_HU G s σ H locs sz) (ha : bz_k G a = (2, 0)) (hlt : a < sz) (hin : ∀ w ∈ wsX10, w ∈ Ts) (hl : Cond.fieldLink own index "StarterBay$History" "states" "[LStarterBay$State;" ∈ Ts) {r : Nat} (hr : r ≠ 0) (hdg : decode cc pc = .ok (.putfield index, 3)) (kk : ∀ (H1 : Heap) (locs1 : List Loc), bz_HU G s (bz_wr σ a 0 r) H1 locs1 sz → W p l e R s m args below meth c H1 locs1 cells slots Q (F0 m (pc + 3) ls rest)) : W p l e R s m args below meth c H locs cells slots Q (F0 m pc ls (.ref r :: .ref a :: rest)) :=
  bz_putF C hnm2 h ha (by simp) hlt (ci := 1) (fs := [bz_rv (σ.2 a 0), .int (σ.1 a 1)]) rfl rfl 0 (by decide) hin tyX1 tyX1_ok nmX1 hl rfl hown rfl rfl (by simp) (τ := bz_wr σ a 0 r) bz_wr_o (by rw [← bz_rs (σ := σ) (a := a) (k := 0) hr]; simp [bz_cE, bz_wr]) hdg kk
theorem gU_1_0 {a index : Nat} (C : bz_C p s m c args cc nL own Ts G) (h : bz_HU G s σ H locs sz) (ha : bz_k G a = (2, 0)) (hlt : a < sz) (hin : ∀ w ∈ wsX10, w ∈ Ts) (hl : Cond.fieldLink own index "StarterBay$History" "states" "[LStarterBay$State;" ∈ Ts) {r : Nat} (hv : σ.2 a 0 = r) (hr : r ≠ 0) (hdg : decode cc pc = .ok (.getfield index, 3)) (kk : W p l e R s m args below meth c H locs cells slots Q (F0 m (pc + 3) ls (.ref r :: rest))) : W p l e R s m args below meth c H locs cells slots Q (F0 m pc ls (.ref a :: rest)) :=
  bz_getU C h ha (by simp) hlt (ci := 1) (fs := [bz_rv (σ.2 a 0), .int (σ.1 a 1)]) rfl rfl 0 (by decide) hin hl (v := .ref r) (by rw [← bz_r1 hr, ← hv]; rfl) hdg kk
theorem pF_2_0 {a index : Nat} (C : bz_C p s m c args cc nL own Ts G) (hown : "StarterBay$Motor" = own) (hnm2 : meth.name = "<init>") (h : bz_HU G s σ H locs sz) (ha : bz_k G a = (3, 0)) (hlt : a < sz) (hin : ∀ w ∈ wsX20, w ∈ Ts) (hl : Cond.fieldLink own index "StarterBay$Motor" "number" "I" ∈ Ts) {v : Int32} (hdg : decode cc pc = .ok (.putfield index, 3)) (kk : ∀ (H1 : Heap) (locs1 : List Loc), bz_HU G s (bz_wi σ a 0 v) H1 locs1 sz → W p l e R s m args below meth c H1 locs1 cells slots Q (F0 m (pc + 3) ls rest)) : W p l e R s m args below meth c H locs cells slots Q (F0 m pc ls (.int v :: .ref a :: rest)) :=
  bz_putF C hnm2 h ha (by simp) hlt (ci := 2) (fs := [.int (σ.1 a 0), bz_rv (σ.2 a 1), .int (σ.1 a 2), .int (σ.1 a 3), .int (σ.1 a 4), .int (σ.1 a 5), .int (σ.1 a 6), .int (σ.1 a 7), .int (σ.1 a 8), .int (σ.1 a 9), .int (σ.1 a 10), .int (σ.1 a 11), .int (σ.1 a 12), .int (σ.1 a 13), .int (σ.1 a 14)]) rfl rfl 0 (by decide) hin tyX2 tyX2_ok nmX2 hl rfl hown rfl rfl (by simp) (τ := bz_wi σ a 0 v) bz_wi_o (by simp [bz_cE, bz_wi, upd]) hdg kk
theorem pF_2_1 {a index : Nat} (C : bz_C p s m c args cc nL own Ts G) (hown : "StarterBay$Motor" = own) (hnm2 : meth.name = "<init>") (h : bz_HU G s σ H locs sz) (ha : bz_k G a = (3, 0)) (hlt : a < sz) (hin : ∀ w ∈ wsX20, w ∈ Ts) (hl : Cond.fieldLink own index "StarterBay$Motor" "accounts" "[I" ∈ Ts) {r : Nat} (hr : r ≠ 0) (hdg : decode cc pc = .ok (.putfield index, 3)) (kk : ∀ (H1 : Heap) (locs1 : List Loc), bz_HU G s (bz_wr σ a 1 r) H1 locs1 sz → W p l e R s m args below meth c H1 locs1 cells slots Q (F0 m (pc + 3) ls rest)) : W p l e R s m args below meth c H locs cells slots Q (F0 m pc ls (.ref r :: .ref a :: rest)) :=
  bz_putF C hnm2 h ha (by simp) hlt (ci := 2) (fs := [.int (σ.1 a 0), bz_rv (σ.2 a 1), .int (σ.1 a 2), .int (σ.1 a 3), .int (σ.1 a 4), .int (σ.1 a 5), .int (σ.1 a 6), .int (σ.1 a 7), .int (σ.1 a 8), .int (σ.1 a 9), .int (σ.1 a 10), .int (σ.1 a 11), .int (σ.1 a 12), .int (σ.1 a 13), .int (σ.1 a 14)]) rfl rfl 1 (by decide) hin tyX2 tyX2_ok nmX2 hl rfl hown rfl rfl (by simp) (τ := bz_wr σ a 1 r) bz_wr_o (by rw [← bz_rs (σ := σ) (a := a) (k := 1) hr]; simp [bz_cE, bz_wr]) hdg kk
theorem gU_2_1 {a index : Nat} (C : bz_C p s m c args cc nL own Ts G) (h : bz_HU G s σ H locs sz) (ha : bz_k G a = (3, 0)) (hlt : a < sz) (hin : ∀ w ∈ wsX20, w ∈ Ts) (hl : Cond.fieldLink own index "StarterBay$Motor" "accounts" "[I" ∈ Ts) {r : Nat} (hv : σ.2 a 1 = r) (hr : r ≠ 0) (hdg : decode cc pc = .ok (.getfield index, 3)) (kk : W p l e R s m args below meth c H locs cells slots Q (F0 m (pc + 3) ls (.ref r :: rest))) : W p l e R s m args below meth c H locs cells slots Q (F0 m pc ls (.ref a :: rest)) :=
  bz_getU C h ha (by simp) hlt (ci := 2) (fs := [.int (σ.1 a 0), bz_rv (σ.2 a 1), .int (σ.1 a 2), .int (σ.1 a 3), .int (σ.1 a 4), .int (σ.1 a 5), .int (σ.1 a 6), .int (σ.1 a 7), .int (σ.1 a 8), .int (σ.1 a 9), .int (σ.1 a 10), .int (σ.1 a 11), .int (σ.1 a 12), .int (σ.1 a 13), .int (σ.1 a 14)]) rfl rfl 1 (by decide) hin hl (v := .ref r) (by rw [← bz_r1 hr, ← hv]; rfl) hdg kk
theorem pF_3_0 {a index : Nat} (C : bz_C p s m c args cc nL own Ts G) (hown : "StarterBay$State" = own) (hnm2 : meth.name = "<init>") (h : bz_HU G s σ H locs sz) (ha : bz_k G a = (4, 0)) (hlt : a < sz) (hin : ∀ w ∈ wsX30, w ∈ Ts) (hl : Cond.fieldLink own index "StarterBay$State" "motors" "[LStarterBay$Motor;" ∈ Ts) {r : Nat} (hr : r ≠ 0) (hdg : decode cc pc = .ok (.putfield index, 3)) (kk : ∀ (H1 : Heap) (locs1 : List Loc), bz_HU G s (bz_wr σ a 0 r) H1 locs1 sz → W p l e R s m args below meth c H1 locs1 cells slots Q (F0 m (pc + 3) ls rest)) : W p l e R s m args below meth c H locs cells slots Q (F0 m pc ls (.ref r :: .ref a :: rest)) :=
  bz_putF C hnm2 h ha (by simp) hlt (ci := 3) (fs := [bz_rv (σ.2 a 0), bz_rv (σ.2 a 1), bz_rv (σ.2 a 2), .int (σ.1 a 3), .int (σ.1 a 4), .int (σ.1 a 5), .int (σ.1 a 6), .int (σ.1 a 7)]) rfl rfl 0 (by decide) hin tyX3 tyX3_ok nmX3 hl rfl hown rfl rfl (by simp) (τ := bz_wr σ a 0 r) bz_wr_o (by rw [← bz_rs (σ := σ) (a := a) (k := 0) hr]; simp [bz_cE, bz_wr]) hdg kk
theorem gU_3_0 {a index : Nat} (C : bz_C p s m c args cc nL own Ts G) (h : bz_HU G s σ H locs sz) (ha : bz_k G a = (4, 0)) (hlt : a < sz) (hin : ∀ w ∈ wsX30, w ∈ Ts) (hl : Cond.fieldLink own index "StarterBay$State" "motors" "[LStarterBay$Motor;" ∈ Ts) {r : Nat} (hv : σ.2 a 0 = r) (hr : r ≠ 0) (hdg : decode cc pc = .ok (.getfield index, 3)) (kk : W p l e R s m args below meth c H locs cells slots Q (F0 m (pc + 3) ls (.ref r :: rest))) : W p l e R s m args below meth c H locs cells slots Q (F0 m pc ls (.ref a :: rest)) :=
  bz_getU C h ha (by simp) hlt (ci := 3) (fs := [bz_rv (σ.2 a 0), bz_rv (σ.2 a 1), bz_rv (σ.2 a 2), .int (σ.1 a 3), .int (σ.1 a 4), .int (σ.1 a 5), .int (σ.1 a 6), .int (σ.1 a 7)]) rfl rfl 0 (by decide) hin hl (v := .ref r) (by rw [← bz_r1 hr, ← hv]; rfl) hdg kk
theorem pF_3_1 {a index : Nat} (C : bz_C p s m c args cc nL own Ts G) (hown : "StarterBay$State" = own) (hnm2 : meth.name = "<init>") (h : bz_HU G s σ H locs sz) (ha : bz_k G a = (4, 0)) (hlt : a < sz) (hin : ∀ w ∈ wsX30, w ∈ Ts) (hl : Cond.fieldLink own index "StarterBay$State" "timetable" "LStarterBay$Timetable;" ∈ Ts) {r : Nat} (hr : r ≠ 0) (hdg : decode cc pc = .ok (.putfield index, 3)) (kk : ∀ (H1 : Heap) (locs1 : List Loc), bz_HU G s (bz_wr σ a 1 r) H1 locs1 sz → W p l e R s m args below meth c H1 locs1 cells slots Q (F0 m (pc + 3) ls rest)) : W p l e R s m args below meth c H locs cells slots Q (F0 m pc ls (.ref r :: .ref a :: rest)) :=
  bz_putF C hnm2 h ha (by simp) hlt (ci := 3) (fs := [bz_rv (σ.2 a 0), bz_rv (σ.2 a 1), bz_rv (σ.2 a 2), .int (σ.1 a 3), .int (σ.1 a 4), .int (σ.1 a 5), .int (σ.1 a 6), .int (σ.1 a 7)]) rfl rfl 1 (by decide) hin tyX3 tyX3_ok nmX3 hl rfl hown rfl rfl (by simp) (τ := bz_wr σ a 1 r) bz_wr_o (by rw [← bz_rs (σ := σ) (a := a) (k := 1) hr]; simp [bz_cE, bz_wr]) hdg kk
theorem gU_3_1 {a index : Nat} (C : bz_C p s m c args cc nL own Ts G) (h : bz_HU G s σ H locs sz) (ha : bz_k G a = (4, 0)) (hlt : a < sz) (hin : ∀ w ∈ wsX30, w ∈ Ts) (hl : Cond.fieldLink own index "StarterBay$State" "timetable" "LStarterBay$Timetable;" ∈ Ts) {r : Nat} (hv : σ.2 a 1 = r) (hr : r ≠ 0) (hdg : decode cc pc = .ok (.getfield index, 3)) (kk : W p l e R s m args below meth c H locs cells slots Q (F0 m (pc + 3) ls (.ref r :: rest))) : W p l e R s m args below meth c H locs cells slots Q (F0 m pc ls (.ref a :: rest)) :=
  bz_getU C h ha (by simp) hlt (ci := 3) (fs := [bz_rv (σ.2 a 0), bz_rv (σ.2 a 1), bz_rv (σ.2 a 2), .int (σ.1 a 3), .int (σ.1 a 4), .int (σ.1 a 5), .int (σ.1 a 6), .int (σ.1 a 7)]) rfl rfl 1 (by decide) hin hl (v := .ref r) (by rw [← bz_r1 hr, ← hv]; rfl) hdg kk
theorem pF_3_2 {a index : Nat} (C : bz_C p s m c args cc nL own Ts G) (hown : "StarterBay$State" = own) (hnm2 : meth.name = "<init>") (h : bz_HU G s σ H locs sz) (ha : bz_k G a = (4, 0)) (hlt : a < sz) (hin : ∀ w ∈ wsX30, w ∈ Ts) (hl : Cond.fieldLink own index "StarterBay$State" "events" "LStarterBay$EventLog;" ∈ Ts) {r : Nat} (hr : r ≠ 0) (hdg : decode cc pc = .ok (.putfield index, 3)) (kk : ∀ (H1 : Heap) (locs1 : List Loc), bz_HU G s (bz_wr σ a 2 r) H1 locs1 sz → W p l e R s m args below meth c H1 locs1 cells slots Q (F0 m (pc + 3) ls rest)) : W p l e R s m args below meth c H locs cells slots Q (F0 m pc ls (.ref r :: .ref a :: rest)) :=
  bz_putF C hnm2 h ha (by simp) hlt (ci := 3) (fs := [bz_rv (σ.2 a 0), bz_rv (σ.2 a 1), bz_rv (σ.2 a 2), .int (σ.1 a 3), .int (σ.1 a 4), .int (σ.1 a 5), .int (σ.1 a 6), .int (σ.1 a 7)]) rfl rfl 2 (by decide) hin tyX3 tyX3_ok nmX3 hl rfl hown rfl rfl (by simp) (τ := bz_wr σ a 2 r) bz_wr_o (by rw [← bz_rs (σ := σ) (a := a) (k := 2) hr]; simp [bz_cE, bz_wr]) hdg kk
theorem gU_3_2 {a index : Nat} (C : bz_C p s m c args cc nL own Ts G) (h : bz_HU G s σ H locs sz) (ha : bz_k G a = (4, 0)) (hlt : a < sz) (hin : ∀ w ∈ wsX30, w ∈ Ts) (hl : Cond.fieldLink own index "StarterBay$State" "events" "LStarterBay$EventLog;" ∈ Ts) {r : Nat} (hv : σ.2 a 2 = r) (hr : r ≠ 0) (hdg : decode cc pc = .ok (.getfield index, 3)) (kk : W p l e R s m args below meth c H locs cells slots Q (F0 m (pc + 3) ls (.ref r :: rest))) : W p l e R s m args below meth c H locs cells slots Q (F0 m pc ls (.ref a :: rest)) :=
  bz_getU C h ha (by simp) hlt (ci := 3) (fs := [bz_rv (σ.2 a 0), bz_rv (σ.2 a 1), bz_rv (σ.2 a 2), .int (σ.1 a 3), .int (σ.1 a 4), .int (σ.1 a 5), .int (σ.1 a 6), .int (σ.1 a 7)]) rfl rfl 2 (by decide) hin hl (v := .ref r) (by rw [← bz_r1 hr, ← hv]; rfl) hdg kk
theorem pU_3_5 {a index : Nat} (C : bz_C p s m c args cc nL own Ts G) (h : bz_HU G s σ H locs sz) (ha : bz_k G a = (4, 0)) (hlt : a < sz) (hin : ∀ w ∈ wsX30, w ∈ Ts) (hl : Cond.fieldLink own index "StarterBay$State" "limit" "I" ∈ Ts) {v : Int32} (hdg : decode cc pc = .ok (.putfield index, 3)) (kk : ∀ (H1 : Heap) (locs1 : List Loc), bz_HU G s (bz_wi σ a 5 v) H1 locs1 sz → W p l e R s m args below meth c H1 locs1 cells slots Q (F0 m (pc + 3) ls rest)) : W p l e R s m args below meth c H locs cells slots Q (F0 m pc ls (.int v :: .ref a :: rest)) :=
  bz_putU C h ha (by simp) hlt (ci := 3) (fs := [bz_rv (σ.2 a 0), bz_rv (σ.2 a 1), bz_rv (σ.2 a 2), .int (σ.1 a 3), .int (σ.1 a 4), .int (σ.1 a 5), .int (σ.1 a 6), .int (σ.1 a 7)]) rfl rfl 5 (by decide) hin tyX3 tyX3_ok nmX3 hl rfl rfl rfl (by simp) (τ := bz_wi σ a 5 v) bz_wi_o (by simp [bz_cE, bz_wi, upd]) hdg kk
theorem pF_4_0 {a index : Nat} (C : bz_C p s m c args cc nL own Ts G) (hown : "StarterBay$Timetable" = own) (hnm2 : meth.name = "<init>") (h : bz_HU G s σ H locs sz) (ha : bz_k G a = (5, 0)) (hlt : a < sz) (hin : ∀ w ∈ wsX40, w ∈ Ts) (hl : Cond.fieldLink own index "StarterBay$Timetable" "due" "[I" ∈ Ts) {r : Nat} (hr : r ≠ 0) (hdg : decode cc pc = .ok (.putfield index, 3)) (kk : ∀ (H1 : Heap) (locs1 : List Loc), bz_HU G s (bz_wr σ a 0 r) H1 locs1 sz → W p l e R s m args below meth c H1 locs1 cells slots Q (F0 m (pc + 3) ls rest)) : W p l e R s m args below meth c H locs cells slots Q (F0 m pc ls (.ref r :: .ref a :: rest)) :=
  bz_putF C hnm2 h ha (by simp) hlt (ci := 4) (fs := [bz_rv (σ.2 a 0), bz_rv (σ.2 a 1), bz_rv (σ.2 a 2), bz_rv (σ.2 a 3), .int (σ.1 a 4), .int (σ.1 a 5)]) rfl rfl 0 (by decide) hin tyX4 tyX4_ok nmX4 hl rfl hown rfl rfl (by simp) (τ := bz_wr σ a 0 r) bz_wr_o (by rw [← bz_rs (σ := σ) (a := a) (k := 0) hr]; simp [bz_cE, bz_wr]) hdg kk
theorem gU_4_0 {a index : Nat} (C : bz_C p s m c args cc nL own Ts G) (h : bz_HU G s σ H locs sz) (ha : bz_k G a = (5, 0)) (hlt : a < sz) (hin : ∀ w ∈ wsX40, w ∈ Ts) (hl : Cond.fieldLink own index "StarterBay$Timetable" "due" "[I" ∈ Ts) {r : Nat} (hv : σ.2 a 0 = r) (hr : r ≠ 0) (hdg : decode cc pc = .ok (.getfield index, 3)) (kk : W p l e R s m args below meth c H locs cells slots Q (F0 m (pc + 3) ls (.ref r :: rest))) : W p l e R s m args below meth c H locs cells slots Q (F0 m pc ls (.ref a :: rest)) :=
  bz_getU C h ha (by simp) hlt (ci := 4) (fs := [bz_rv (σ.2 a 0), bz_rv (σ.2 a 1), bz_rv (σ.2 a 2), bz_rv (σ.2 a 3), .int (σ.1 a 4), .int (σ.1 a 5)]) rfl rfl 0 (by decide) hin hl (v := .ref r) (by rw [← bz_r1 hr, ← hv]; rfl) hdg kk
theorem pF_4_1 {a index : Nat} (C : bz_C p s m c args cc nL own Ts G) (hown : "StarterBay$Timetable" = own) (hnm2 : meth.name = "<init>") (h : bz_HU G s σ H locs sz) (ha : bz_k G a = (5, 0)) (hlt : a < sz) (hin : ∀ w ∈ wsX40, w ∈ Ts) (hl : Cond.fieldLink own index "StarterBay$Timetable" "order" "[I" ∈ Ts) {r : Nat} (hr : r ≠ 0) (hdg : decode cc pc = .ok (.putfield index, 3)) (kk : ∀ (H1 : Heap) (locs1 : List Loc), bz_HU G s (bz_wr σ a 1 r) H1 locs1 sz → W p l e R s m args below meth c H1 locs1 cells slots Q (F0 m (pc + 3) ls rest)) : W p l e R s m args below meth c H locs cells slots Q (F0 m pc ls (.ref r :: .ref a :: rest)) :=
  bz_putF C hnm2 h ha (by simp) hlt (ci := 4) (fs := [bz_rv (σ.2 a 0), bz_rv (σ.2 a 1), bz_rv (σ.2 a 2), bz_rv (σ.2 a 3), .int (σ.1 a 4), .int (σ.1 a 5)]) rfl rfl 1 (by decide) hin tyX4 tyX4_ok nmX4 hl rfl hown rfl rfl (by simp) (τ := bz_wr σ a 1 r) bz_wr_o (by rw [← bz_rs (σ := σ) (a := a) (k := 1) hr]; simp [bz_cE, bz_wr]) hdg kk
theorem gU_4_1 {a index : Nat} (C : bz_C p s m c args cc nL own Ts G) (h : bz_HU G s σ H locs sz) (ha : bz_k G a = (5, 0)) (hlt : a < sz) (hin : ∀ w ∈ wsX40, w ∈ Ts) (hl : Cond.fieldLink own index "StarterBay$Timetable" "order" "[I" ∈ Ts) {r : Nat} (hv : σ.2 a 1 = r) (hr : r ≠ 0) (hdg : decode cc pc = .ok (.getfield index, 3)) (kk : W p l e R s m args below meth c H locs cells slots Q (F0 m (pc + 3) ls (.ref r :: rest))) : W p l e R s m args below meth c H locs cells slots Q (F0 m pc ls (.ref a :: rest)) :=
  bz_getU C h ha (by simp) hlt (ci := 4) (fs := [bz_rv (σ.2 a 0), bz_rv (σ.2 a 1), bz_rv (σ.2 a 2), bz_rv (σ.2 a 3), .int (σ.1 a 4), .int (σ.1 a 5)]) rfl rfl 1 (by decide) hin hl (v := .ref r) (by rw [← bz_r1 hr, ← hv]; rfl) hdg kk
theorem pF_4_2 {a index : Nat} (C : bz_C p s m c args cc nL own Ts G) (hown : "StarterBay$Timetable" = own) (hnm2 : meth.name = "<init>") (h : bz_HU G s σ H locs sz) (ha : bz_k G a = (5, 0)) (hlt : a < sz) (hin : ∀ w ∈ wsX40, w ∈ Ts) (hl : Cond.fieldLink own index "StarterBay$Timetable" "first" "[I" ∈ Ts) {r : Nat} (hr : r ≠ 0) (hdg : decode cc pc = .ok (.putfield index, 3)) (kk : ∀ (H1 : Heap) (locs1 : List Loc), bz_HU G s (bz_wr σ a 2 r) H1 locs1 sz → W p l e R s m args below meth c H1 locs1 cells slots Q (F0 m (pc + 3) ls rest)) : W p l e R s m args below meth c H locs cells slots Q (F0 m pc ls (.ref r :: .ref a :: rest)) :=
  bz_putF C hnm2 h ha (by simp) hlt (ci := 4) (fs := [bz_rv (σ.2 a 0), bz_rv (σ.2 a 1), bz_rv (σ.2 a 2), bz_rv (σ.2 a 3), .int (σ.1 a 4), .int (σ.1 a 5)]) rfl rfl 2 (by decide) hin tyX4 tyX4_ok nmX4 hl rfl hown rfl rfl (by simp) (τ := bz_wr σ a 2 r) bz_wr_o (by rw [← bz_rs (σ := σ) (a := a) (k := 2) hr]; simp [bz_cE, bz_wr]) hdg kk
theorem gU_4_2 {a index : Nat} (C : bz_C p s m c args cc nL own Ts G) (h : bz_HU G s σ H locs sz) (ha : bz_k G a = (5, 0)) (hlt : a < sz) (hin : ∀ w ∈ wsX40, w ∈ Ts) (hl : Cond.fieldLink own index "StarterBay$Timetable" "first" "[I" ∈ Ts) {r : Nat} (hv : σ.2 a 2 = r) (hr : r ≠ 0) (hdg : decode cc pc = .ok (.getfield index, 3)) (kk : W p l e R s m args below meth c H locs cells slots Q (F0 m (pc + 3) ls (.ref r :: rest))) : W p l e R s m args below meth c H locs cells slots Q (F0 m pc ls (.ref a :: rest)) :=
  bz_getU C h ha (by simp) hlt (ci := 4) (fs := [bz_rv (σ.2 a 0), bz_rv (σ.2 a 1), bz_rv (σ.2 a 2), bz_rv (σ.2 a 3), .int (σ.1 a 4), .int (σ.1 a 5)]) rfl rfl 2 (by decide) hin hl (v := .ref r) (by rw [← bz_r1 hr, ← hv]; rfl) hdg kk
theorem pF_4_3 {a index : Nat} (C : bz_C p s m c args cc nL own Ts G) (hown : "StarterBay$Timetable" = own) (hnm2 : meth.name = "<init>") (h : bz_HU G s σ H locs sz) (ha : bz_k G a = (5, 0)) (hlt : a < sz) (hin : ∀ w ∈ wsX40, w ∈ Ts) (hl : Cond.fieldLink own index "StarterBay$Timetable" "second" "[I" ∈ Ts) {r : Nat} (hr : r ≠ 0) (hdg : decode cc pc = .ok (.putfield index, 3)) (kk : ∀ (H1 : Heap) (locs1 : List Loc), bz_HU G s (bz_wr σ a 3 r) H1 locs1 sz → W p l e R s m args below meth c H1 locs1 cells slots Q (F0 m (pc + 3) ls rest)) : W p l e R s m args below meth c H locs cells slots Q (F0 m pc ls (.ref r :: .ref a :: rest)) :=
  bz_putF C hnm2 h ha (by simp) hlt (ci := 4) (fs := [bz_rv (σ.2 a 0), bz_rv (σ.2 a 1), bz_rv (σ.2 a 2), bz_rv (σ.2 a 3), .int (σ.1 a 4), .int (σ.1 a 5)]) rfl rfl 3 (by decide) hin tyX4 tyX4_ok nmX4 hl rfl hown rfl rfl (by simp) (τ := bz_wr σ a 3 r) bz_wr_o (by rw [← bz_rs (σ := σ) (a := a) (k := 3) hr]; simp [bz_cE, bz_wr]) hdg kk
theorem gU_4_3 {a index : Nat} (C : bz_C p s m c args cc nL own Ts G) (h : bz_HU G s σ H locs sz) (ha : bz_k G a = (5, 0)) (hlt : a < sz) (hin : ∀ w ∈ wsX40, w ∈ Ts) (hl : Cond.fieldLink own index "StarterBay$Timetable" "second" "[I" ∈ Ts) {r : Nat} (hv : σ.2 a 3 = r) (hr : r ≠ 0) (hdg : decode cc pc = .ok (.getfield index, 3)) (kk : W p l e R s m args below meth c H locs cells slots Q (F0 m (pc + 3) ls (.ref r :: rest))) : W p l e R s m args below meth c H locs cells slots Q (F0 m pc ls (.ref a :: rest)) :=
  bz_getU C h ha (by simp) hlt (ci := 4) (fs := [bz_rv (σ.2 a 0), bz_rv (σ.2 a 1), bz_rv (σ.2 a 2), bz_rv (σ.2 a 3), .int (σ.1 a 4), .int (σ.1 a 5)]) rfl rfl 3 (by decide) hin hl (v := .ref r) (by rw [← bz_r1 hr, ← hv]; rfl) hdg kk
theorem pF_5_0 {a index : Nat} (C : bz_C p s m c args cc nL own Ts G) (hown : "StarterBay$TimetableText" = own) (hnm2 : meth.name = "<init>") (h : bz_HU G s σ H locs sz) (ha : bz_k G a = (6, 0)) (hlt : a < sz) (hin : ∀ w ∈ wsX50, w ∈ Ts) (hl : Cond.fieldLink own index "StarterBay$TimetableText" "characters" "[C" ∈ Ts) {r : Nat} (hr : r ≠ 0) (hdg : decode cc pc = .ok (.putfield index, 3)) (kk : ∀ (H1 : Heap) (locs1 : List Loc), bz_HU G s (bz_wr σ a 0 r) H1 locs1 sz → W p l e R s m args below meth c H1 locs1 cells slots Q (F0 m (pc + 3) ls rest)) : W p l e R s m args below meth c H locs cells slots Q (F0 m pc ls (.ref r :: .ref a :: rest)) :=
  bz_putF C hnm2 h ha (by simp) hlt (ci := 5) (fs := [bz_rv (σ.2 a 0), .int (σ.1 a 1), .int (σ.1 a 2), .int (σ.1 a 3), .int (σ.1 a 4), .int (σ.1 a 5), .int (σ.1 a 6)]) rfl rfl 0 (by decide) hin tyX5 tyX5_ok nmX5 hl rfl hown rfl rfl (by simp) (τ := bz_wr σ a 0 r) bz_wr_o (by rw [← bz_rs (σ := σ) (a := a) (k := 0) hr]; simp [bz_cE, bz_wr]) hdg kk
theorem gU_5_0 {a index : Nat} (C : bz_C p s m c args cc nL own Ts G) (h : bz_HU G s σ H locs sz) (ha : bz_k G a = (6, 0)) (hlt : a < sz) (hin : ∀ w ∈ wsX50, w ∈ Ts) (hl : Cond.fieldLink own index "StarterBay$TimetableText" "characters" "[C" ∈ Ts) {r : Nat} (hv : σ.2 a 0 = r) (hr : r ≠ 0) (hdg : decode cc pc = .ok (.getfield index, 3)) (kk : W p l e R s m args below meth c H locs cells slots Q (F0 m (pc + 3) ls (.ref r :: rest))) : W p l e R s m args below meth c H locs cells slots Q (F0 m pc ls (.ref a :: rest)) :=
  bz_getU C h ha (by simp) hlt (ci := 5) (fs := [bz_rv (σ.2 a 0), .int (σ.1 a 1), .int (σ.1 a 2), .int (σ.1 a 3), .int (σ.1 a 4), .int (σ.1 a 5), .int (σ.1 a 6)]) rfl rfl 0 (by decide) hin hl (v := .ref r) (by rw [← bz_r1 hr, ← hv]; rfl) hdg kk
theorem pF_6_0 {a index : Nat} (C : bz_C p s m c args cc nL own Ts G) (hown : "StarterBay" = own) (hnm2 : meth.name = "<init>") (h : bz_HU G s σ H locs sz) (ha : bz_k G a = (7, 0)) (hlt : a < sz) (hin : ∀ w ∈ wsX60, w ∈ Ts) (hl : Cond.fieldLink own index "StarterBay" "now" "LStarterBay$State;" ∈ Ts) {r : Nat} (hr : r ≠ 0) (hdg : decode cc pc = .ok (.putfield index, 3)) (kk : ∀ (H1 : Heap) (locs1 : List Loc), bz_HU G s (bz_wr σ a 0 r) H1 locs1 sz → W p l e R s m args below meth c H1 locs1 cells slots Q (F0 m (pc + 3) ls rest)) : W p l e R s m args below meth c H locs cells slots Q (F0 m pc ls (.ref r :: .ref a :: rest)) :=
  bz_putF C hnm2 h ha (by simp) hlt (ci := 6) (fs := [bz_rv (σ.2 a 0), bz_rv (σ.2 a 1), bz_rv (σ.2 a 2), .int (σ.1 a 3), bz_rv (σ.2 a 4), bz_rv (σ.2 a 5), bz_rv (σ.2 a 6), .int (σ.1 a 7)]) rfl rfl 0 (by decide) hin tyX6 tyX6_ok nmX6 hl rfl hown rfl rfl (by simp) (τ := bz_wr σ a 0 r) bz_wr_o (by rw [← bz_rs (σ := σ) (a := a) (k := 0) hr]; simp [bz_cE, bz_wr]) hdg kk
theorem gU_6_0 {a index : Nat} (C : bz_C p s m c args cc nL own Ts G) (h : bz_HU G s σ H locs sz) (ha : bz_k G a = (7, 0)) (hlt : a < sz) (hin : ∀ w ∈ wsX60, w ∈ Ts) (hl : Cond.fieldLink own index "StarterBay" "now" "LStarterBay$State;" ∈ Ts) {r : Nat} (hv : σ.2 a 0 = r) (hr : r ≠ 0) (hdg : decode cc pc = .ok (.getfield index, 3)) (kk : W p l e R s m args below meth c H locs cells slots Q (F0 m (pc + 3) ls (.ref r :: rest))) : W p l e R s m args below meth c H locs cells slots Q (F0 m pc ls (.ref a :: rest)) :=
  bz_getU C h ha (by simp) hlt (ci := 6) (fs := [bz_rv (σ.2 a 0), bz_rv (σ.2 a 1), bz_rv (σ.2 a 2), .int (σ.1 a 3), bz_rv (σ.2 a 4), bz_rv (σ.2 a 5), bz_rv (σ.2 a 6), .int (σ.1 a 7)]) rfl rfl 0 (by decide) hin hl (v := .ref r) (by rw [← bz_r1 hr, ← hv]; rfl) hdg kk
theorem pF_6_1 {a index : Nat} (C : bz_C p s m c args cc nL own Ts G) (hown : "StarterBay" = own) (hnm2 : meth.name = "<init>") (h : bz_HU G s σ H locs sz) (ha : bz_k G a = (7, 0)) (hlt : a < sz) (hin : ∀ w ∈ wsX60, w ∈ Ts) (hl : Cond.fieldLink own index "StarterBay" "history" "LStarterBay$History;" ∈ Ts) {r : Nat} (hr : r ≠ 0) (hdg : decode cc pc = .ok (.putfield index, 3)) (kk : ∀ (H1 : Heap) (locs1 : List Loc), bz_HU G s (bz_wr σ a 1 r) H1 locs1 sz → W p l e R s m args below meth c H1 locs1 cells slots Q (F0 m (pc + 3) ls rest)) : W p l e R s m args below meth c H locs cells slots Q (F0 m pc ls (.ref r :: .ref a :: rest)) :=
  bz_putF C hnm2 h ha (by simp) hlt (ci := 6) (fs := [bz_rv (σ.2 a 0), bz_rv (σ.2 a 1), bz_rv (σ.2 a 2), .int (σ.1 a 3), bz_rv (σ.2 a 4), bz_rv (σ.2 a 5), bz_rv (σ.2 a 6), .int (σ.1 a 7)]) rfl rfl 1 (by decide) hin tyX6 tyX6_ok nmX6 hl rfl hown rfl rfl (by simp) (τ := bz_wr σ a 1 r) bz_wr_o (by rw [← bz_rs (σ := σ) (a := a) (k := 1) hr]; simp [bz_cE, bz_wr]) hdg kk
theorem gU_6_1 {a index : Nat} (C : bz_C p s m c args cc nL own Ts G) (h : bz_HU G s σ H locs sz) (ha : bz_k G a = (7, 0)) (hlt : a < sz) (hin : ∀ w ∈ wsX60, w ∈ Ts) (hl : Cond.fieldLink own index "StarterBay" "history" "LStarterBay$History;" ∈ Ts) {r : Nat} (hv : σ.2 a 1 = r) (hr : r ≠ 0) (hdg : decode cc pc = .ok (.getfield index, 3)) (kk : W p l e R s m args below meth c H locs cells slots Q (F0 m (pc + 3) ls (.ref r :: rest))) : W p l e R s m args below meth c H locs cells slots Q (F0 m pc ls (.ref a :: rest)) :=
  bz_getU C h ha (by simp) hlt (ci := 6) (fs := [bz_rv (σ.2 a 0), bz_rv (σ.2 a 1), bz_rv (σ.2 a 2), .int (σ.1 a 3), bz_rv (σ.2 a 4), bz_rv (σ.2 a 5), bz_rv (σ.2 a 6), .int (σ.1 a 7)]) rfl rfl 1 (by decide) hin hl (v := .ref r) (by rw [← bz_r1 hr, ← hv]; rfl) hdg kk
theorem pF_6_2 {a index : Nat} (C : bz_C p s m c args cc nL own Ts G) (hown : "StarterBay" = own) (hnm2 : meth.name = "<init>") (h : bz_HU G s σ H locs sz) (ha : bz_k G a = (7, 0)) (hlt : a < sz) (hin : ∀ w ∈ wsX60, w ∈ Ts) (hl : Cond.fieldLink own index "StarterBay" "snapshot" "LStarterBay$State;" ∈ Ts) {r : Nat} (hr : r ≠ 0) (hdg : decode cc pc = .ok (.putfield index, 3)) (kk : ∀ (H1 : Heap) (locs1 : List Loc), bz_HU G s (bz_wr σ a 2 r) H1 locs1 sz → W p l e R s m args below meth c H1 locs1 cells slots Q (F0 m (pc + 3) ls rest)) : W p l e R s m args below meth c H locs cells slots Q (F0 m pc ls (.ref r :: .ref a :: rest)) :=
  bz_putF C hnm2 h ha (by simp) hlt (ci := 6) (fs := [bz_rv (σ.2 a 0), bz_rv (σ.2 a 1), bz_rv (σ.2 a 2), .int (σ.1 a 3), bz_rv (σ.2 a 4), bz_rv (σ.2 a 5), bz_rv (σ.2 a 6), .int (σ.1 a 7)]) rfl rfl 2 (by decide) hin tyX6 tyX6_ok nmX6 hl rfl hown rfl rfl (by simp) (τ := bz_wr σ a 2 r) bz_wr_o (by rw [← bz_rs (σ := σ) (a := a) (k := 2) hr]; simp [bz_cE, bz_wr]) hdg kk
theorem gU_6_2 {a index : Nat} (C : bz_C p s m c args cc nL own Ts G) (h : bz_HU G s σ H locs sz) (ha : bz_k G a = (7, 0)) (hlt : a < sz) (hin : ∀ w ∈ wsX60, w ∈ Ts) (hl : Cond.fieldLink own index "StarterBay" "snapshot" "LStarterBay$State;" ∈ Ts) {r : Nat} (hv : σ.2 a 2 = r) (hr : r ≠ 0) (hdg : decode cc pc = .ok (.getfield index, 3)) (kk : W p l e R s m args below meth c H locs cells slots Q (F0 m (pc + 3) ls (.ref r :: rest))) : W p l e R s m args below meth c H locs cells slots Q (F0 m pc ls (.ref a :: rest)) :=
  bz_getU C h ha (by simp) hlt (ci := 6) (fs := [bz_rv (σ.2 a 0), bz_rv (σ.2 a 1), bz_rv (σ.2 a 2), .int (σ.1 a 3), bz_rv (σ.2 a 4), bz_rv (σ.2 a 5), bz_rv (σ.2 a 6), .int (σ.1 a 7)]) rfl rfl 2 (by decide) hin hl (v := .ref r) (by rw [← bz_r1 hr, ← hv]; rfl) hdg kk
theorem pF_6_4 {a index : Nat} (C : bz_C p s m c args cc nL own Ts G) (hown : "StarterBay" = own) (hnm2 : meth.name = "<init>") (h : bz_HU G s σ H locs sz) (ha : bz_k G a = (7, 0)) (hlt : a < sz) (hin : ∀ w ∈ wsX60, w ∈ Ts) (hl : Cond.fieldLink own index "StarterBay" "text" "LStarterBay$TimetableText;" ∈ Ts) {r : Nat} (hr : r ≠ 0) (hdg : decode cc pc = .ok (.putfield index, 3)) (kk : ∀ (H1 : Heap) (locs1 : List Loc), bz_HU G s (bz_wr σ a 4 r) H1 locs1 sz → W p l e R s m args below meth c H1 locs1 cells slots Q (F0 m (pc + 3) ls rest)) : W p l e R s m args below meth c H locs cells slots Q (F0 m pc ls (.ref r :: .ref a :: rest)) :=
  bz_putF C hnm2 h ha (by simp) hlt (ci := 6) (fs := [bz_rv (σ.2 a 0), bz_rv (σ.2 a 1), bz_rv (σ.2 a 2), .int (σ.1 a 3), bz_rv (σ.2 a 4), bz_rv (σ.2 a 5), bz_rv (σ.2 a 6), .int (σ.1 a 7)]) rfl rfl 4 (by decide) hin tyX6 tyX6_ok nmX6 hl rfl hown rfl rfl (by simp) (τ := bz_wr σ a 4 r) bz_wr_o (by rw [← bz_rs (σ := σ) (a := a) (k := 4) hr]; simp [bz_cE, bz_wr]) hdg kk
theorem gU_6_4 {a index : Nat} (C : bz_C p s m c args cc nL own Ts G) (h : bz_HU G s σ H locs sz) (ha : bz_k G a = (7, 0)) (hlt : a < sz) (hin : ∀ w ∈ wsX60, w ∈ Ts) (hl : Cond.fieldLink own index "StarterBay" "text" "LStarterBay$TimetableText;" ∈ Ts) {r : Nat} (hv : σ.2 a 4 = r) (hr : r ≠ 0) (hdg : decode cc pc = .ok (.getfield index, 3)) (kk : W p l e R s m args below meth c H locs cells slots Q (F0 m (pc + 3) ls (.ref r :: rest))) : W p l e R s m args below meth c H locs cells slots Q (F0 m pc ls (.ref a :: rest)) :=
  bz_getU C h ha (by simp) hlt (ci := 6) (fs := [bz_rv (σ.2 a 0), bz_rv (σ.2 a 1), bz_rv (σ.2 a 2), .int (σ.1 a 3), bz_rv (σ.2 a 4), bz_rv (σ.2 a 5), bz_rv (σ.2 a 6), .int (σ.1 a 7)]) rfl rfl 4 (by decide) hin hl (v := .ref r) (by rw [← bz_r1 hr, ← hv]; rfl) hdg kk
theorem pF_6_5 {a index : Nat} (C : bz_C p s m c args cc nL own Ts G) (hown : "StarterBay" = own) (hnm2 : meth.name = "<init>") (h : bz_HU G s σ H locs sz) (ha : bz_k G a = (7, 0)) (hlt : a < sz) (hin : ∀ w ∈ wsX60, w ∈ Ts) (hl : Cond.fieldLink own index "StarterBay" "draft" "LStarterBay$Timetable;" ∈ Ts) {r : Nat} (hr : r ≠ 0) (hdg : decode cc pc = .ok (.putfield index, 3)) (kk : ∀ (H1 : Heap) (locs1 : List Loc), bz_HU G s (bz_wr σ a 5 r) H1 locs1 sz → W p l e R s m args below meth c H1 locs1 cells slots Q (F0 m (pc + 3) ls rest)) : W p l e R s m args below meth c H locs cells slots Q (F0 m pc ls (.ref r :: .ref a :: rest)) :=
  bz_putF C hnm2 h ha (by simp) hlt (ci := 6) (fs := [bz_rv (σ.2 a 0), bz_rv (σ.2 a 1), bz_rv (σ.2 a 2), .int (σ.1 a 3), bz_rv (σ.2 a 4), bz_rv (σ.2 a 5), bz_rv (σ.2 a 6), .int (σ.1 a 7)]) rfl rfl 5 (by decide) hin tyX6 tyX6_ok nmX6 hl rfl hown rfl rfl (by simp) (τ := bz_wr σ a 5 r) bz_wr_o (by rw [← bz_rs (σ := σ) (a := a) (k := 5) hr]; simp [bz_cE, bz_wr]) hdg kk
theorem gU_6_5 {a index : Nat} (C : bz_C p s m c args cc nL own Ts G) (h : bz_HU G s σ H locs sz) (ha : bz_k G a = (7, 0)) (hlt : a < sz) (hin : ∀ w ∈ wsX60, w ∈ Ts) (hl : Cond.fieldLink own index "StarterBay" "draft" "LStarterBay$Timetable;" ∈ Ts) {r : Nat} (hv : σ.2 a 5 = r) (hr : r ≠ 0) (hdg : decode cc pc = .ok (.getfield index, 3)) (kk : W p l e R s m args below meth c H locs cells slots Q (F0 m (pc + 3) ls (.ref r :: rest))) : W p l e R s m args below meth c H locs cells slots Q (F0 m pc ls (.ref a :: rest)) :=
  bz_getU C h ha (by simp) hlt (ci := 6) (fs := [bz_rv (σ.2 a 0), bz_rv (σ.2 a 1), bz_rv (σ.2 a 2), .int (σ.1 a 3), bz_rv (σ.2 a 4), bz_rv (σ.2 a 5), bz_rv (σ.2 a 6), .int (σ.1 a 7)]) rfl rfl 5 (by decide) hin hl (v := .ref r) (by rw [← bz_r1 hr, ← hv]; rfl) hdg kk
theorem pF_6_6 {a index : Nat} (C : bz_C p s m c args cc nL own Ts G) (hown : "StarterBay" = own) (hnm2 : meth.name = "<init>") (h : bz_HU G s σ H locs sz) (ha : bz_k G a = (7, 0)) (hlt : a < sz) (hin : ∀ w ∈ wsX60, w ∈ Ts) (hl : Cond.fieldLink own index "StarterBay" "line" "[I" ∈ Ts) {r : Nat} (hr : r ≠ 0) (hdg : decode cc pc = .ok (.putfield index, 3)) (kk : ∀ (H1 : Heap) (locs1 : List Loc), bz_HU G s (bz_wr σ a 6 r) H1 locs1 sz → W p l e R s m args below meth c H1 locs1 cells slots Q (F0 m (pc + 3) ls rest)) : W p l e R s m args below meth c H locs cells slots Q (F0 m pc ls (.ref r :: .ref a :: rest)) :=
  bz_putF C hnm2 h ha (by simp) hlt (ci := 6) (fs := [bz_rv (σ.2 a 0), bz_rv (σ.2 a 1), bz_rv (σ.2 a 2), .int (σ.1 a 3), bz_rv (σ.2 a 4), bz_rv (σ.2 a 5), bz_rv (σ.2 a 6), .int (σ.1 a 7)]) rfl rfl 6 (by decide) hin tyX6 tyX6_ok nmX6 hl rfl hown rfl rfl (by simp) (τ := bz_wr σ a 6 r) bz_wr_o (by rw [← bz_rs (σ := σ) (a := a) (k := 6) hr]; simp [bz_cE, bz_wr]) hdg kk
theorem gU_6_6 {a index : Nat} (C : bz_C p s m c args cc nL own Ts G) (h : bz_HU G s σ H locs sz) (ha : bz_k G a = (7, 0)) (hlt : a < sz) (hin : ∀ w ∈ wsX60, w ∈ Ts) (hl : Cond.fieldLink own index "StarterBay" "line" "[I" ∈ Ts) {r : Nat} (hv : σ.2 a 6 = r) (hr : r ≠ 0) (hdg : decode cc pc = .ok (.getfield index, 3)) (kk : W p l e R s m args below meth c H locs cells slots Q (F0 m (pc + 3) ls (.ref r :: rest))) : W p l e R s m args below meth c H locs cells slots Q (F0 m pc ls (.ref a :: rest)) :=
  bz_getU C h ha (by simp) hlt (ci := 6) (fs := [bz_rv (σ.2 a 0), bz_rv (σ.2 a 1), bz_rv (σ.2 a 2), .int (σ.1 a 3), bz_rv (σ.2 a 4), bz_rv (σ.2 a 5), bz_rv (σ.2 a 6), .int (σ.1 a 7)]) rfl rfl 6 (by decide) hin hl (v := .ref r) (by rw [← bz_r1 hr, ← hv]; rfl) hdg kk
end BJ
-- what the constructors leave
def ini_E (σ : bz_W) (a : Nat) : bz_W := bz_wr (bz_wr (bz_wr σ a 0 (a + 1)) a 1 (a + 2)) a 2 (a + 3)
def ini_T (σ : bz_W) (a : Nat) : bz_W := bz_wr (bz_wr (bz_wr (bz_wr σ a 0 (a + 1)) a 1 (a + 2)) a 2 (a + 3)) a 3 (a + 4)
def ini_X (σ : bz_W) (a : Nat) : bz_W := bz_wr σ a 0 (a + 1)
def ini_M (σ : bz_W) (a : Nat) (x : Int32) : bz_W := bz_wr (bz_wi σ a 0 x) a 1 (a + 1)
def ini_Ms (σ : bz_W) (a : Nat) : Nat → bz_W
  | 0 => bz_wr σ a 0 (a + 1)
  | i + 1 => bz_wr (ini_M (ini_Ms σ a i) (a + 2 + 2 * i) (nI i)) (a + 1) i (a + 2 + 2 * i)
def ini_S (σ : bz_W) (a : Nat) : bz_W := bz_wi (bz_wr (ini_E (bz_wr (ini_T (ini_Ms σ a 8) (a + 18)) a 1 (a + 18)) (a + 23)) a 2 (a + 23)) a 5 500
def ini_Hs (σ : bz_W) (a : Nat) : Nat → bz_W
  | 0 => bz_wr σ a 0 (a + 1)
  | i + 1 => bz_wr (ini_S (ini_Hs σ a i) (a + 2 + 27 * i)) (a + 1) i (a + 2 + 27 * i)
def ini_B (σ : bz_W) (a : Nat) : bz_W := bz_wr (bz_wr (ini_T (bz_wr (ini_X (bz_wr (ini_S (bz_wr (ini_Hs (bz_wr (ini_S σ (a + 1)) a 0 (a + 1)) (a + 28) 4) a 1 (a + 28)) (a + 138)) a 2 (a + 138)) (a + 165)) a 4 (a + 165)) (a + 167)) a 5 (a + 167)) a 6 (a + 172)
def ini_R (σ : bz_W) (a : Nat) : bz_W := bz_wi (bz_wr (bz_wr (bz_wr (bz_wr (bz_wr σ a 0 (a + 1)) a 1 (a + 2)) a 3 (a + 3)) a 7 (a + 4)) a 10 (a + 5)) (a + 1) 2 500
def kS (j : Nat) : Nat × Nat := if j = 0 then (4, 0) else if j = 1 then (11, 8) else if j < 18 then (if j % 2 = 0 then (3, 0) else (9, 7)) else if j = 18 then (5, 0) else if j < 23 then (9, 10) else if j = 23 then (1, 0) else (9, 10)
def kH (j : Nat) : Nat × Nat := if j = 0 then (2, 0) else if j = 1 then (12, 4) else kS ((j - 2) % 27)
def kB (j : Nat) : Nat × Nat := if j = 0 then (7, 0) else if j < 28 then kS (j - 1) else if j < 138 then kH (j - 28) else if j < 165 then kS (j - 138) else if j = 165 then (6, 0) else if j = 166 then (10, 80) else if j = 167 then (5, 0) else if j < 172 then (9, 10) else (9, 8)
def kc_ (z a : Nat) : Nat × Nat := if z ≤ a ∧ a < z + 173 then kB (a - z) else (0, 0)
def km_ (z a : Nat) : Nat × Nat := if a = z + 173 then (8, 0) else if a = z + 174 then (9, 246) else if a = z + 175 then (9, 984) else if a = z + 176 then (9, 246) else if a = z + 177 then (10, 80) else if a = z + 178 then (9, 48) else (0, 0)
theorem kS_m : ∀ i, i < 8 → kS (2 + 2 * i) = (3, 0) ∧ kS (3 + 2 * i) = (9, 7) := by decide +kernel
theorem kH_s : ∀ i, i < 4 → ∀ j, j < 27 → kH (2 + 27 * i + j) = kS j := by decide +kernel
theorem kB_h : ∀ j, j < 110 → kB (28 + j) = kH j := by decide +kernel
theorem kB_s : ∀ j, j < 27 → kB (1 + j) = kS j ∧ kB (138 + j) = kS j := by decide +kernel
theorem ini_Ms_0 (σ : bz_W) (a : Nat) : ∀ i, (ini_Ms σ a i).2 a 0 = a + 1
  | 0 => by simp [ini_Ms, bz_wr]
  | i + 1 => by
    have h1 : a ≠ a + 1 := by omega
    have h2 : a ≠ a + 2 + 2 * i := by omega
    have := ini_Ms_0 σ a i
    simp [ini_Ms, ini_M, bz_wr, bz_wi, h1, h2, this]
-- what a write leaves alone: below a
theorem ini_S_o (σ : bz_W) (a : Nat) : ∀ b, b < a → (ini_S σ a).2 b = σ.2 b ∧ (ini_S σ a).1 b = σ.1 b := by
  intro b hb
  have hMs : ∀ i, (ini_Ms σ a i).2 b = σ.2 b ∧ (ini_Ms σ a i).1 b = σ.1 b := by
    intro i
    induction i with
    | zero => simp [ini_Ms, bz_wr]; omega
    | succ i ih =>
      have h1 : b ≠ a + 1 := by omega
      have h2 : b ≠ a + 2 + 2 * i := by omega
      simp [ini_Ms, ini_M, bz_wr, bz_wi, h1, h2, ih]
  have h1 : b ≠ a := by omega
  have h2 : b ≠ a + 18 := by omega
  have h3 : b ≠ a + 23 := by omega
  simp [ini_S, ini_E, ini_T, bz_wr, bz_wi, h1, h2, h3, hMs 8]
theorem ini_Hs_0 (σ : bz_W) (a : Nat) : ∀ i, (ini_Hs σ a i).2 a 0 = a + 1
  | 0 => by simp [ini_Hs, bz_wr]
  | i + 1 => by
    have h1 : a ≠ a + 1 := by omega
    have := ini_Hs_0 σ a i
    simp [ini_Hs, bz_wr, h1, (ini_S_o (ini_Hs σ a i) (a + 2 + 27 * i) a (by omega)).1, this]
set_option maxHeartbeats 4000000 in
set_option maxRecDepth 100000 in
theorem c_X0_init {l : Launch} {G : bz_G} {σ : bz_W} {a0 : Nat}  (ka0 : bz_k G a0 = (1, 0)) (k1 : bz_k G (a0 + 1) = (9, 10)) (k2 : bz_k G (a0 + 2) = (9, 10)) (k3 : bz_k G (a0 + 3) = (9, 10)) : bz_MI l yX0_init wz_X0_init 1 12 3 30 G σ (a0 + 1) [.ref a0] (ini_E σ a0) := by
  refine bz_mkI (cc := cX0_init) (maxL := 1) (ret := none) (own := RX0) (by decide) rfl rfl rfl (Nat.le_of_ble_eq_true rfl) ?_
  intro p e s m args below meth c ls C hlocks hr hnm h hl
  have hx := C.1
  have hb := C.2.1
  have hts := C.2.2.2.2.1
  have hl : lv_has ls 1 [(0, .ref a0)] := hl
  obtain ⟨H, eH⟩ : ∃ y, y = s.heap := ⟨_, rfl⟩
  obtain ⟨locs, el⟩ : ∃ y : List Loc, y = [] := ⟨_, rfl⟩
  rw [← el, ← eH] at h ⊢
  refine lv_aload_n hx hb dX0_init_0 rfl (lv_at hl 0 rfl) ?_
  refine bz_obj C hl.1 (List.mem_cons_of_mem _ wd_3_12) (List.mem_cons_of_mem _ wd_1_7) (List.mem_cons_of_mem _ wd_1_8) (Nat.le_of_ble_eq_true rfl) (Nat.le_of_ble_eq_true rfl) dX0_init_1 ?_
  refine lv_aload_n hx hb dX0_init_4 rfl (lv_at hl 0 rfl) ?_
  refine lv_bipush (v := 10) hx hb dX0_init_5 (by decide) ?_
  refine bz_newi C h (N := 10) k1 (List.mem_cons_of_mem _ wd_2_2) (by decide) (by decide) (by decide) (Nat.le_of_ble_eq_true rfl) (Nat.le_of_ble_eq_true rfl) dX0_init_7 (fun H h => ?_)
  refine pF_0_0 C rfl hnm h ka0 (by omega) iz_X0 (List.mem_cons_of_mem _ wd_3_13) (by omega) dX0_init_9 (fun H locs h => ?_)
  refine lv_aload_n hx hb dX0_init_12 rfl (lv_at hl 0 rfl) ?_
  refine lv_bipush (v := 10) hx hb dX0_init_13 (by decide) ?_
  refine bz_newi C h (N := 10) k2 (List.mem_cons_of_mem _ wd_2_2) (by decide) (by decide) (by decide) (Nat.le_of_ble_eq_true rfl) (Nat.le_of_ble_eq_true rfl) dX0_init_15 (fun H h => ?_)
  refine pF_0_1 C rfl hnm h ka0 (by omega) iz_X0 (List.mem_cons_of_mem _ wd_3_14) (by omega) dX0_init_17 (fun H locs h => ?_)
  refine lv_aload_n hx hb dX0_init_20 rfl (lv_at hl 0 rfl) ?_
  refine lv_bipush (v := 10) hx hb dX0_init_21 (by decide) ?_
  refine bz_newi C h (N := 10) k3 (List.mem_cons_of_mem _ wd_2_2) (by decide) (by decide) (by decide) (Nat.le_of_ble_eq_true rfl) (Nat.le_of_ble_eq_true rfl) dX0_init_23 (fun H h => ?_)
  refine pF_0_2 C rfl hnm h ka0 (by omega) iz_X0 (List.mem_cons_of_mem _ wd_3_15) (by omega) dX0_init_25 (fun H locs h => ?_)
  exact bz_vretI C (mc := 3) (ms := 30) (sz0 := a0 + 1) h hlocks hr rfl rfl rfl dX0_init_28
set_option maxHeartbeats 4000000 in
set_option maxRecDepth 100000 in
theorem c_X4_init {l : Launch} {G : bz_G} {σ : bz_W} {a0 : Nat}  (ka0 : bz_k G a0 = (5, 0)) (k1 : bz_k G (a0 + 1) = (9, 10)) (k2 : bz_k G (a0 + 2) = (9, 10)) (k3 : bz_k G (a0 + 3) = (9, 10)) (k4 : bz_k G (a0 + 4) = (9, 10)) : bz_MI l yX4_init wz_X4_init 1 12 4 40 G σ (a0 + 1) [.ref a0] (ini_T σ a0) := by
  refine bz_mkI (cc := cX4_init) (maxL := 1) (ret := none) (own := RX4) (by decide) rfl rfl rfl (Nat.le_of_ble_eq_true rfl) ?_
  intro p e s m args below meth c ls C hlocks hr hnm h hl
  have hx := C.1
  have hb := C.2.1
  have hts := C.2.2.2.2.1
  have hl : lv_has ls 1 [(0, .ref a0)] := hl
  obtain ⟨H, eH⟩ : ∃ y, y = s.heap := ⟨_, rfl⟩
  obtain ⟨locs, el⟩ : ∃ y : List Loc, y = [] := ⟨_, rfl⟩
  rw [← el, ← eH] at h ⊢
  refine lv_aload_n hx hb dX4_init_0 rfl (lv_at hl 0 rfl) ?_
  refine bz_obj C hl.1 (List.mem_cons_of_mem _ wd_3_4) (List.mem_cons_of_mem _ wd_1_7) (List.mem_cons_of_mem _ wd_1_8) (Nat.le_of_ble_eq_true rfl) (Nat.le_of_ble_eq_true rfl) dX4_init_1 ?_
  refine lv_aload_n hx hb dX4_init_4 rfl (lv_at hl 0 rfl) ?_
  refine lv_bipush (v := 10) hx hb dX4_init_5 (by decide) ?_
  refine bz_newi C h (N := 10) k1 (List.mem_cons_of_mem _ wd_2_2) (by decide) (by decide) (by decide) (Nat.le_of_ble_eq_true rfl) (Nat.le_of_ble_eq_true rfl) dX4_init_7 (fun H h => ?_)
  refine pF_4_0 C rfl hnm h ka0 (by omega) iz_X4 (List.mem_cons_of_mem _ wd_3_5) (by omega) dX4_init_9 (fun H locs h => ?_)
  refine lv_aload_n hx hb dX4_init_12 rfl (lv_at hl 0 rfl) ?_
  refine lv_bipush (v := 10) hx hb dX4_init_13 (by decide) ?_
  refine bz_newi C h (N := 10) k2 (List.mem_cons_of_mem _ wd_2_2) (by decide) (by decide) (by decide) (Nat.le_of_ble_eq_true rfl) (Nat.le_of_ble_eq_true rfl) dX4_init_15 (fun H h => ?_)
  refine pF_4_1 C rfl hnm h ka0 (by omega) iz_X4 (List.mem_cons_of_mem _ wd_3_6) (by omega) dX4_init_17 (fun H locs h => ?_)
  refine lv_aload_n hx hb dX4_init_20 rfl (lv_at hl 0 rfl) ?_
  refine lv_bipush (v := 10) hx hb dX4_init_21 (by decide) ?_
  refine bz_newi C h (N := 10) k3 (List.mem_cons_of_mem _ wd_2_2) (by decide) (by decide) (by decide) (Nat.le_of_ble_eq_true rfl) (Nat.le_of_ble_eq_true rfl) dX4_init_23 (fun H h => ?_)
  refine pF_4_2 C rfl hnm h ka0 (by omega) iz_X4 (List.mem_cons_of_mem _ wd_3_7) (by omega) dX4_init_25 (fun H locs h => ?_)
  refine lv_aload_n hx hb dX4_init_28 rfl (lv_at hl 0 rfl) ?_
  refine lv_bipush (v := 10) hx hb dX4_init_29 (by decide) ?_
  refine bz_newi C h (N := 10) k4 (List.mem_cons_of_mem _ wd_2_2) (by decide) (by decide) (by decide) (Nat.le_of_ble_eq_true rfl) (Nat.le_of_ble_eq_true rfl) dX4_init_31 (fun H h => ?_)
  refine pF_4_3 C rfl hnm h ka0 (by omega) iz_X4 (List.mem_cons_of_mem _ wd_3_8) (by omega) dX4_init_33 (fun H locs h => ?_)
  exact bz_vretI C (mc := 4) (ms := 40) (sz0 := a0 + 1) h hlocks hr rfl rfl rfl dX4_init_36
set_option maxHeartbeats 4000000 in
set_option maxRecDepth 100000 in
theorem c_X5_init {l : Launch} {G : bz_G} {σ : bz_W} {a0 : Nat}  (ka0 : bz_k G a0 = (6, 0)) (k1 : bz_k G (a0 + 1) = (10, 80)) : bz_MI l yX5_init wz_X5_init 1 12 1 80 G σ (a0 + 1) [.ref a0] (ini_X σ a0) := by
  refine bz_mkI (cc := cX5_init) (maxL := 1) (ret := none) (own := RX5) (by decide) rfl rfl rfl (Nat.le_of_ble_eq_true rfl) ?_
  intro p e s m args below meth c ls C hlocks hr hnm h hl
  have hx := C.1
  have hb := C.2.1
  have hts := C.2.2.2.2.1
  have hl : lv_has ls 1 [(0, .ref a0)] := hl
  obtain ⟨H, eH⟩ : ∃ y, y = s.heap := ⟨_, rfl⟩
  obtain ⟨locs, el⟩ : ∃ y : List Loc, y = [] := ⟨_, rfl⟩
  rw [← el, ← eH] at h ⊢
  refine lv_aload_n hx hb dX5_init_0 rfl (lv_at hl 0 rfl) ?_
  refine bz_obj C hl.1 (List.mem_cons_of_mem _ wd_4_2) (List.mem_cons_of_mem _ wd_1_7) (List.mem_cons_of_mem _ wd_1_8) (Nat.le_of_ble_eq_true rfl) (Nat.le_of_ble_eq_true rfl) dX5_init_1 ?_
  refine lv_aload_n hx hb dX5_init_4 rfl (lv_at hl 0 rfl) ?_
  refine lv_bipush (v := 80) hx hb dX5_init_5 (by decide) ?_
  refine bz_newch C h (N := 80) k1 (List.mem_cons_of_mem _ wd_4_3) (by decide) (by decide) (by decide) (Nat.le_of_ble_eq_true rfl) (Nat.le_of_ble_eq_true rfl) dX5_init_7 (fun H h => ?_)
  refine pF_5_0 C rfl hnm h ka0 (by omega) iz_X5 (List.mem_cons_of_mem _ wd_4_4) (by omega) dX5_init_9 (fun H locs h => ?_)
  exact bz_vretI C (mc := 1) (ms := 80) (sz0 := a0 + 1) h hlocks hr rfl rfl rfl dX5_init_12
set_option maxHeartbeats 4000000 in
set_option maxRecDepth 100000 in
theorem c_X2_init {l : Launch} {G : bz_G} {σ : bz_W} {a0 : Nat} {x : Int32} (ka0 : bz_k G a0 = (3, 0)) (k1 : bz_k G (a0 + 1) = (9, 7)) : bz_MI l yX2_init wz_X2_init 1 12 1 7 G σ (a0 + 1) [.ref a0, .int x] (ini_M σ a0 x) := by
  refine bz_mkI (cc := cX2_init) (maxL := 2) (ret := none) (own := RX2) (by decide) rfl rfl rfl (Nat.le_of_ble_eq_true rfl) ?_
  intro p e s m args below meth c ls C hlocks hr hnm h hl
  have hx := C.1
  have hb := C.2.1
  have hts := C.2.2.2.2.1
  have hl : lv_has ls 2 [(0, .ref a0), (1, .int x)] := hl
  obtain ⟨H, eH⟩ : ∃ y, y = s.heap := ⟨_, rfl⟩
  obtain ⟨locs, el⟩ : ∃ y : List Loc, y = [] := ⟨_, rfl⟩
  rw [← el, ← eH] at h ⊢
  refine lv_aload_n hx hb dX2_init_0 rfl (lv_at hl 0 rfl) ?_
  refine bz_obj C hl.1 (List.mem_cons_of_mem _ wd_2_22) (List.mem_cons_of_mem _ wd_1_7) (List.mem_cons_of_mem _ wd_1_8) (Nat.le_of_ble_eq_true rfl) (Nat.le_of_ble_eq_true rfl) dX2_init_1 ?_
  refine lv_aload_n hx hb dX2_init_4 rfl (lv_at hl 0 rfl) ?_
  refine lv_iload_n hx hb dX2_init_5 rfl (lv_at hl 1 rfl) ?_
  refine pF_2_0 C rfl hnm h ka0 (by omega) iz_X2 (List.mem_cons_of_mem _ wd_2_23) dX2_init_6 (fun H locs h => ?_)
  refine lv_aload_n hx hb dX2_init_9 rfl (lv_at hl 0 rfl) ?_
  refine lv_bipush (v := 7) hx hb dX2_init_10 (by decide) ?_
  refine bz_newi C h (N := 7) k1 (List.mem_cons_of_mem _ wd_2_2) (by decide) (by decide) (by decide) (Nat.le_of_ble_eq_true rfl) (Nat.le_of_ble_eq_true rfl) dX2_init_12 (fun H h => ?_)
  refine pF_2_1 C rfl hnm h ka0 (by omega) iz_X2 (List.mem_cons_of_mem _ wd_3_0) (by omega) dX2_init_14 (fun H locs h => ?_)
  exact bz_vretI C (mc := 1) (ms := 7) (sz0 := a0 + 1) h hlocks hr rfl rfl rfl dX2_init_17
set_option maxHeartbeats 4000000 in
set_option maxRecDepth 100000 in
theorem c_X3_init {l : Launch} {G : bz_G} {σ : bz_W} {a0 : Nat}  (HS : ∀ j, j < 27 → bz_k G (a0 + j) = kS j) : bz_MI l yX3_init wz_X3_init 2 45 26 264 G σ (a0 + 1) [.ref a0] (ini_S σ a0) := by
  refine bz_mkI (cc := cX3_init) (maxL := 2) (ret := none) (own := RX3) (by decide) rfl rfl rfl (Nat.le_of_ble_eq_true rfl) ?_
  intro p e s m args below meth c ls C hlocks hr hnm h hl
  have hx := C.1
  have hb := C.2.1
  have hts := C.2.2.2.2.1
  have hl : lv_has ls 2 [(0, .ref a0)] := hl
  obtain ⟨H, eH⟩ : ∃ y, y = s.heap := ⟨_, rfl⟩
  obtain ⟨locs, el⟩ : ∃ y : List Loc, y = [] := ⟨_, rfl⟩
  rw [← el, ← eH] at h ⊢
  refine lv_aload_n hx hb dX3_init_0 rfl (lv_at hl 0 rfl) ?_
  refine bz_obj C hl.1 (List.mem_cons_of_mem _ wd_2_7) (List.mem_cons_of_mem _ wd_1_7) (List.mem_cons_of_mem _ wd_1_8) (Nat.le_of_ble_eq_true rfl) (Nat.le_of_ble_eq_true rfl) dX3_init_1 ?_
  have ka0 : bz_k G a0 = (4, 0) := HS 0 (by omega)
  have k1 : bz_k G (a0 + 1) = (11, 8) := HS 1 (by omega)
  refine lv_aload_n hx hb dX3_init_4 rfl (lv_at hl 0 rfl) ?_
  refine lv_bipush (v := 8) hx hb dX3_init_5 (by decide) ?_
  refine bz_newam C h (N := 8) k1 (List.mem_cons_of_mem _ wd_2_8) (by decide) (by decide) (by decide) (Nat.le_of_ble_eq_true rfl) (Nat.le_of_ble_eq_true rfl) dX3_init_7 (fun H h => ?_)
  refine pF_3_0 C rfl hnm h ka0 (by omega) iz_X3 (List.mem_cons_of_mem _ wd_2_9) (by omega) dX3_init_10 (fun H locs h => ?_)
  refine lv_iconst (v := 0) hx hb dX3_init_13 (by decide) ?_
  refine lv_istore_n (lv' := [(1, .int 0), (0, .ref a0)]) hx hb dX3_init_14 rfl hl (by decide) rfl (fun ls hl => ?_)
  have loop : ∀ n i : Nat, n + i = 8 → ∀ (H : Heap) (locs : List Loc) (ls : Array Slot), bz_HU G s (ini_Ms σ a0 i) H locs (a0 + 2 + 2 * i) → lv_has ls 2 [(1, .int (nI i)), (0, .ref a0)] → W p l e ({ frames := 2, cells := 26, slots := 264, locals := 45 } : Room) s m args below meth c H locs (1 + 2 * i) (8 + 22 * i) (MQ below (fun _ st oc t => (oc = .returned none ∧ t.heap.size = a0 + 1 + 26 ∧ bz_U G (ini_S σ a0) t.heap) ∧ va_F (bz_A G) st t) args s 26 264 (bz_A G)) (F0 m 15 ls []) := by
    intro n
    induction n with
    | zero =>
      intro i hi H locs ls h hl
      have hi : i = 8 := by omega
      subst hi
      refine lv_iload_n hx hb dX3_init_15 rfl (lv_at hl 0 rfl) ?_
      refine lv_bipush (v := 8) hx hb dX3_init_16 (by decide) ?_
      refine lv_icmp_ge (tgt := 41) hx hb dX3_init_18 (by decide) (fun c => ?_) (fun c => absurd (by decide) c)
      have h : bz_HU G s (ini_Ms σ a0 8) H locs (a0 + 18) := h
      refine lv_aload_n hx hb dX3_init_41 rfl (lv_at hl 1 rfl) ?_
      refine bz_newc C h (ci := 4) (HS 18 (by omega)) rfl iz_X4 tyX4 tyX4_ok (List.mem_cons_of_mem _ wd_2_12) (List.mem_cons_of_mem _ wd_1_23) (List.mem_cons_of_mem _ wd_2_0) (fs := [.null, .null, .null, .null, .int 0, .int 0]) rfl (fun j hj => by rcases (show j = 0 ∨ j = 1 ∨ j = 2 ∨ j = 3 ∨ j = 4 ∨ j = 5 by omega) with rfl | rfl | rfl | rfl | rfl | rfl <;> rfl) (Nat.le_of_ble_eq_true rfl) (Nat.le_of_ble_eq_true rfl) dX3_init_42 (fun H h => ?_)
      refine lv_dup hx hb dX3_init_45 rfl ?_
      refine bz_callI (rest := [.ref (a0 + 18), .ref a0]) C h (As := []) (c_X4_init (l := l) (HS 18 (by omega)) (HS 19 (by omega)) (HS 20 (by omega)) (HS 21 (by omega)) (HS 22 (by omega))) (cwI 0 hts (bz_g0 wd_3_3) rfl rfl rfl (hts _ (List.mem_cons_of_mem _ wd_2_0)) (hts _ (List.mem_cons_of_mem _ wd_3_1)) (hts _ (List.mem_cons_of_mem _ wd_3_2)) rfl (by decide +kernel) ⟨Nat.le_of_ble_eq_true rfl, Nat.le_of_ble_eq_true rfl⟩) rfl hl.1 rfl (Nat.le_of_ble_eq_true rfl) ⟨Nat.le_of_ble_eq_true rfl, Nat.le_of_ble_eq_true rfl⟩ dX3_init_46 (fun H locs h => ?_)
      refine pF_3_1 C rfl hnm h ka0 (by omega) iz_X3 (List.mem_cons_of_mem _ wd_2_13) (by omega) dX3_init_49 (fun H locs h => ?_)
      refine lv_aload_n hx hb dX3_init_52 rfl (lv_at hl 1 rfl) ?_
      have h : bz_HU G s (bz_wr (ini_T (ini_Ms σ a0 8) (a0 + 18)) a0 1 (a0 + 18)) H locs (a0 + 23) := h
      refine bz_newc C h (ci := 0) (HS 23 (by omega)) rfl iz_X0 tyX0 tyX0_ok (List.mem_cons_of_mem _ wd_2_14) (List.mem_cons_of_mem _ wd_2_15) (List.mem_cons_of_mem _ wd_2_16) (fs := [.null, .null, .null, .int 0]) rfl (fun j hj => by rcases (show j = 0 ∨ j = 1 ∨ j = 2 ∨ j = 3 by omega) with rfl | rfl | rfl | rfl <;> rfl) (Nat.le_of_ble_eq_true rfl) (Nat.le_of_ble_eq_true rfl) dX3_init_53 (fun H h => ?_)
      refine lv_dup hx hb dX3_init_56 rfl ?_
      refine bz_callI (rest := [.ref (a0 + 23), .ref a0]) C h (As := []) (c_X0_init (l := l) (HS 23 (by omega)) (HS 24 (by omega)) (HS 25 (by omega)) (HS 26 (by omega))) (cwI 0 hts (bz_g0 wd_3_11) rfl rfl rfl (hts _ (List.mem_cons_of_mem _ wd_2_16)) (hts _ (List.mem_cons_of_mem _ wd_3_9)) (hts _ (List.mem_cons_of_mem _ wd_3_10)) rfl (by decide +kernel) ⟨Nat.le_of_ble_eq_true rfl, Nat.le_of_ble_eq_true rfl⟩) rfl hl.1 rfl (Nat.le_of_ble_eq_true rfl) ⟨Nat.le_of_ble_eq_true rfl, Nat.le_of_ble_eq_true rfl⟩ dX3_init_57 (fun H locs h => ?_)
      refine pF_3_2 C rfl hnm h ka0 (by omega) iz_X3 (List.mem_cons_of_mem _ wd_2_17) (by omega) dX3_init_60 (fun H locs h => ?_)
      refine lv_aload_n hx hb dX3_init_63 rfl (lv_at hl 1 rfl) ?_
      refine lv_sipush (v := 500) hx hb dX3_init_64 (by decide) ?_
      refine pU_3_5 C h ka0 (by omega) iz_X3 (List.mem_cons_of_mem _ wd_2_18) dX3_init_67 (fun H locs h => ?_)
      exact bz_vretI C (mc := 26) (ms := 264) (sz0 := a0 + 1) h hlocks hr rfl rfl rfl dX3_init_70
    | succ n ih =>
      intro i hi H locs ls h hl
      have hi8 : i < 8 := by omega
      refine lv_iload_n hx hb dX3_init_15 rfl (lv_at hl 0 rfl) ?_
      refine lv_bipush (v := 8) hx hb dX3_init_16 (by decide) ?_
      refine lv_icmp_ge (tgt := 41) hx hb dX3_init_18 (by decide) (fun c => absurd c (nI_ge (b := 8) hi8 (by decide))) (fun c => ?_)
      refine lv_aload_n hx hb dX3_init_21 rfl (lv_at hl 1 rfl) ?_
      refine gU_3_0 C h ka0 (by omega) iz_X3 (List.mem_cons_of_mem _ wd_2_9) (r := a0 + 1) (ini_Ms_0 σ a0 i) (by omega) dX3_init_22 ?_
      refine lv_iload_n hx hb dX3_init_25 rfl (lv_at hl 0 rfl) ?_
      have km : bz_k G (a0 + 2 + 2 * i) = (3, 0) := by rw [← (kS_m i hi8).1, ← HS (2 + 2 * i) (by omega)]; congr 1; omega
      have kq : bz_k G (a0 + 2 + 2 * i + 1) = (9, 7) := by rw [← (kS_m i hi8).2, ← HS (3 + 2 * i) (by omega)]; congr 1; omega
      refine bz_newc C h (ci := 2) km rfl iz_X2 tyX2 tyX2_ok (List.mem_cons_of_mem _ wd_2_8) (List.mem_cons_of_mem _ wd_2_10) (List.mem_cons_of_mem _ wd_2_11) (fs := [.int 0, .null, .int 0, .int 0, .int 0, .int 0, .int 0, .int 0, .int 0, .int 0, .int 0, .int 0, .int 0, .int 0, .int 0]) rfl (fun j hj => by rcases (show j = 0 ∨ j = 1 ∨ j = 2 ∨ j = 3 ∨ j = 4 ∨ j = 5 ∨ j = 6 ∨ j = 7 ∨ j = 8 ∨ j = 9 ∨ j = 10 ∨ j = 11 ∨ j = 12 ∨ j = 13 ∨ j = 14 by omega) with rfl | rfl | rfl | rfl | rfl | rfl | rfl | rfl | rfl | rfl | rfl | rfl | rfl | rfl | rfl <;> rfl) (by show 1 + 2 * i + 1 ≤ 26; omega) (by show 8 + 22 * i + 15 ≤ 264; omega) dX3_init_26 (fun H h => ?_)
      refine lv_dup hx hb dX3_init_29 rfl ?_
      refine lv_iload_n hx hb dX3_init_30 rfl (lv_at hl 0 rfl) ?_
      refine bz_callI (rest := [.ref (a0 + 2 + 2 * i), .int (nI i), .ref (a0 + 1)]) C h (As := [.int (nI i)]) (c_X2_init (l := l) (x := nI i) km kq) (cwI 1 hts (bz_g0 wd_2_21) rfl rfl rfl (hts _ (List.mem_cons_of_mem _ wd_2_11)) (hts _ (List.mem_cons_of_mem _ wd_2_19)) (hts _ (List.mem_cons_of_mem _ wd_2_20)) rfl (by decide +kernel) ⟨Nat.le_of_ble_eq_true rfl, Nat.le_of_ble_eq_true rfl⟩) rfl hl.1 rfl (Nat.le_of_ble_eq_true rfl) ⟨by show 1 + 2 * i + 1 + 1 ≤ 26; omega, by show 8 + 22 * i + 15 + 7 ≤ 264; omega⟩ dX3_init_31 (fun H locs h => ?_)
      refine bz_aastUm C h k1 (by omega) km (by omega) (by have := nI_toInt (n := i) (by omega); simp [in_, this]; omega) (kx := i) (nI_clamp (by omega)) dX3_init_34 (fun H locs h => ?_)
      obtain ⟨x1, ex1⟩ : ∃ y : Int32, y = nI i + 1 := ⟨_, rfl⟩
      refine lv_iinc (v := x1) (lv' := [(1, .int x1), (0, .ref a0)]) hx hb dX3_init_35 hl (k := 0) rfl (by rw [ex1]; rfl) (by decide) rfl (fun ls hl => ?_)
      refine lv_goto (tgt := 15) hx hb dX3_init_38 (by decide) ?_
      rw [ex1, nI_1] at hl
      have h : bz_HU G s (ini_Ms σ a0 (i + 1)) H locs (a0 + 2 + 2 * (i + 1)) := by
        rw [show a0 + 2 + 2 * (i + 1) = a0 + 2 + 2 * i + 1 + 1 by omega]
        exact h
      exact W.cs (by omega) (by omega) (ih (i + 1) (by omega) H locs ls h hl)
  exact loop 8 0 (by omega) H locs ls h hl
set_option maxHeartbeats 4000000 in
set_option maxRecDepth 100000 in
theorem c_X1_init {l : Launch} {G : bz_G} {σ : bz_W} {a0 : Nat}  (HS : ∀ j, j < 110 → bz_k G (a0 + j) = kH j) : bz_MI l yX1_init wz_X1_init 3 66 109 1092 G σ (a0 + 1) [.ref a0] (ini_Hs σ a0 4) := by
  refine bz_mkI (cc := cX1_init) (maxL := 2) (ret := none) (own := RX1) (by decide) rfl rfl rfl (Nat.le_of_ble_eq_true rfl) ?_
  intro p e s m args below meth c ls C hlocks hr hnm h hl
  have hx := C.1
  have hb := C.2.1
  have hts := C.2.2.2.2.1
  have hl : lv_has ls 2 [(0, .ref a0)] := hl
  obtain ⟨H, eH⟩ : ∃ y, y = s.heap := ⟨_, rfl⟩
  obtain ⟨locs, el⟩ : ∃ y : List Loc, y = [] := ⟨_, rfl⟩
  rw [← el, ← eH] at h ⊢
  refine lv_aload_n hx hb dX1_init_0 rfl (lv_at hl 0 rfl) ?_
  refine bz_obj C hl.1 (List.mem_cons_of_mem _ wd_3_19) (List.mem_cons_of_mem _ wd_1_7) (List.mem_cons_of_mem _ wd_1_8) (Nat.le_of_ble_eq_true rfl) (Nat.le_of_ble_eq_true rfl) dX1_init_1 ?_
  have ka0 : bz_k G a0 = (2, 0) := HS 0 (by omega)
  have k1 : bz_k G (a0 + 1) = (12, 4) := HS 1 (by omega)
  refine lv_aload_n hx hb dX1_init_4 rfl (lv_at hl 0 rfl) ?_
  refine lv_iconst (v := 4) hx hb dX1_init_5 (by decide) ?_
  refine bz_newas C h (N := 4) k1 (List.mem_cons_of_mem _ wd_3_20) (by decide) (by decide) (by decide) (Nat.le_of_ble_eq_true rfl) (Nat.le_of_ble_eq_true rfl) dX1_init_6 (fun H h => ?_)
  refine pF_1_0 C rfl hnm h ka0 (by omega) iz_X1 (List.mem_cons_of_mem _ wd_3_21) (by omega) dX1_init_9 (fun H locs h => ?_)
  refine lv_iconst (v := 0) hx hb dX1_init_12 (by decide) ?_
  refine lv_istore_n (lv' := [(1, .int 0), (0, .ref a0)]) hx hb dX1_init_13 rfl hl (by decide) rfl (fun ls hl => ?_)
  have loop : ∀ n i : Nat, n + i = 4 → ∀ (H : Heap) (locs : List Loc) (ls : Array Slot), bz_HU G s (ini_Hs σ a0 i) H locs (a0 + 2 + 27 * i) → lv_has ls 2 [(1, .int (nI i)), (0, .ref a0)] → W p l e ({ frames := 3, cells := 109, slots := 1092, locals := 66 } : Room) s m args below meth c H locs (1 + 27 * i) (4 + 272 * i) (MQ below (fun _ st oc t => (oc = .returned none ∧ t.heap.size = a0 + 1 + 109 ∧ bz_U G (ini_Hs σ a0 4) t.heap) ∧ va_F (bz_A G) st t) args s 109 1092 (bz_A G)) (F0 m 14 ls []) := by
    intro n
    induction n with
    | zero =>
      intro i hi H locs ls h hl
      have hi : i = 4 := by omega
      subst hi
      refine lv_iload_n hx hb dX1_init_14 rfl (lv_at hl 0 rfl) ?_
      refine lv_iconst (v := 4) hx hb dX1_init_15 (by decide) ?_
      refine lv_icmp_ge (tgt := 38) hx hb dX1_init_16 (by decide) (fun c => ?_) (fun c => absurd (by decide) c)
      exact bz_vretI C (mc := 109) (ms := 1092) (sz0 := a0 + 1) h hlocks hr rfl rfl rfl dX1_init_38
    | succ n ih =>
      intro i hi H locs ls h hl
      have hi8 : i < 4 := by omega
      refine lv_iload_n hx hb dX1_init_14 rfl (lv_at hl 0 rfl) ?_
      refine lv_iconst (v := 4) hx hb dX1_init_15 (by decide) ?_
      refine lv_icmp_ge (tgt := 38) hx hb dX1_init_16 (by decide) (fun c => absurd c (nI_ge (b := 4) hi8 (by decide))) (fun c => ?_)
      refine lv_aload_n hx hb dX1_init_19 rfl (lv_at hl 1 rfl) ?_
      refine gU_1_0 C h ka0 (by omega) iz_X1 (List.mem_cons_of_mem _ wd_3_21) (r := a0 + 1) (ini_Hs_0 σ a0 i) (by omega) dX1_init_20 ?_
      refine lv_iload_n hx hb dX1_init_23 rfl (lv_at hl 0 rfl) ?_
      have HSi : ∀ j, j < 27 → bz_k G (a0 + 2 + 27 * i + j) = kS j := fun j hj => by rw [← kH_s i hi8 j hj, ← HS (2 + 27 * i + j) (by omega)]; congr 1; omega
      have km : bz_k G (a0 + 2 + 27 * i) = (4, 0) := HSi 0 (by omega)
      refine bz_newc C h (ci := 3) km rfl iz_X3 tyX3 tyX3_ok (List.mem_cons_of_mem _ wd_3_20) (List.mem_cons_of_mem _ wd_1_10) (List.mem_cons_of_mem _ wd_1_11) (fs := [.null, .null, .null, .int 0, .int 0, .int 0, .int 0, .int 0]) rfl (fun j hj => by rcases (show j = 0 ∨ j = 1 ∨ j = 2 ∨ j = 3 ∨ j = 4 ∨ j = 5 ∨ j = 6 ∨ j = 7 by omega) with rfl | rfl | rfl | rfl | rfl | rfl | rfl | rfl <;> rfl) (by show 1 + 27 * i + 1 ≤ 109; omega) (by show 4 + 272 * i + 8 ≤ 1092; omega) dX1_init_24 (fun H h => ?_)
      refine lv_dup hx hb dX1_init_27 rfl ?_
      refine bz_callI (rest := [.ref (a0 + 2 + 27 * i), .int (nI i), .ref (a0 + 1)]) C h (As := []) (c_X3_init (l := l) HSi) (cwI 0 hts (bz_g0 wd_2_6) rfl rfl rfl (hts _ (List.mem_cons_of_mem _ wd_1_11)) (hts _ (List.mem_cons_of_mem _ wd_3_22)) (hts _ (List.mem_cons_of_mem _ wd_2_5)) rfl (by decide +kernel) ⟨Nat.le_of_ble_eq_true rfl, Nat.le_of_ble_eq_true rfl⟩) rfl hl.1 rfl (Nat.le_of_ble_eq_true rfl) ⟨by show 1 + 27 * i + 1 + 26 ≤ 109; omega, by show 4 + 272 * i + 8 + 264 ≤ 1092; omega⟩ dX1_init_28 (fun H locs h => ?_)
      refine bz_aastUs C h k1 (by omega) km (by omega) (by have := nI_toInt (n := i) (by omega); simp [in_, this]; omega) (kx := i) (nI_clamp (by omega)) dX1_init_31 (fun H locs h => ?_)
      obtain ⟨x1, ex1⟩ : ∃ y : Int32, y = nI i + 1 := ⟨_, rfl⟩
      refine lv_iinc (v := x1) (lv' := [(1, .int x1), (0, .ref a0)]) hx hb dX1_init_32 hl (k := 0) rfl (by rw [ex1]; rfl) (by decide) rfl (fun ls hl => ?_)
      refine lv_goto (tgt := 14) hx hb dX1_init_35 (by decide) ?_
      rw [ex1, nI_1] at hl
      have h : bz_HU G s (ini_Hs σ a0 (i + 1)) H locs (a0 + 2 + 27 * (i + 1)) := by
        rw [show a0 + 2 + 27 * (i + 1) = a0 + 2 + 27 * i + 1 + 26 by omega]
        exact h
      exact W.cs (by omega) (by omega) (ih (i + 1) (by omega) H locs ls h hl)
  exact loop 4 0 (by omega) H locs ls h hl
set_option maxHeartbeats 4000000 in
set_option maxRecDepth 100000 in
theorem c_X6_init {l : Launch} {G : bz_G} {σ : bz_W} {a0 : Nat}  (HB : ∀ j, j < 173 → bz_k G (a0 + j) = kB j) : bz_MI l yX6_init wz_X6_init 4 87 172 1779 G σ (a0 + 1) [.ref a0] (ini_B σ a0) := by
  refine bz_mkI (cc := cX6_init) (maxL := 1) (ret := none) (own := RX6) (by decide) rfl rfl rfl (Nat.le_of_ble_eq_true rfl) ?_
  intro p e s m args below meth c ls C hlocks hr hnm h hl
  have hx := C.1
  have hb := C.2.1
  have hts := C.2.2.2.2.1
  have hl : lv_has ls 1 [(0, .ref a0)] := hl
  obtain ⟨H, eH⟩ : ∃ y, y = s.heap := ⟨_, rfl⟩
  obtain ⟨locs, el⟩ : ∃ y : List Loc, y = [] := ⟨_, rfl⟩
  rw [← el, ← eH] at h ⊢
  refine lv_aload_n hx hb dX6_init_0 rfl (lv_at hl 0 rfl) ?_
  refine bz_obj C hl.1 (List.mem_cons_of_mem _ wd_1_6) (List.mem_cons_of_mem _ wd_1_7) (List.mem_cons_of_mem _ wd_1_8) (Nat.le_of_ble_eq_true rfl) (Nat.le_of_ble_eq_true rfl) dX6_init_1 ?_
  have ka0 : bz_k G a0 = (7, 0) := HB 0 (by omega)
  have HS1 : ∀ j, j < 27 → bz_k G (a0 + 1 + j) = kS j := fun j hj => by rw [← (kB_s j hj).1, ← HB (1 + j) (by omega)]; congr 1; omega
  have HS2 : ∀ j, j < 27 → bz_k G (a0 + 138 + j) = kS j := fun j hj => by rw [← (kB_s j hj).2, ← HB (138 + j) (by omega)]; congr 1; omega
  have HH : ∀ j, j < 110 → bz_k G (a0 + 28 + j) = kH j := fun j hj => by rw [← kB_h j hj, ← HB (28 + j) (by omega)]; congr 1; omega
  refine lv_aload_n hx hb dX6_init_4 rfl (lv_at hl 0 rfl) ?_
  refine bz_newc C h (ci := 3) (HS1 0 (by omega)) rfl iz_X3 tyX3 tyX3_ok (List.mem_cons_of_mem _ wd_1_9) (List.mem_cons_of_mem _ wd_1_10) (List.mem_cons_of_mem _ wd_1_11) (fs := [.null, .null, .null, .int 0, .int 0, .int 0, .int 0, .int 0]) rfl (fun j hj => by rcases (show j = 0 ∨ j = 1 ∨ j = 2 ∨ j = 3 ∨ j = 4 ∨ j = 5 ∨ j = 6 ∨ j = 7 by omega) with rfl | rfl | rfl | rfl | rfl | rfl | rfl | rfl <;> rfl) (Nat.le_of_ble_eq_true rfl) (Nat.le_of_ble_eq_true rfl) dX6_init_5 (fun H h => ?_)
  refine lv_dup hx hb dX6_init_8 rfl ?_
  refine bz_callI (rest := [.ref (a0 + 1), .ref a0]) C h (As := []) (c_X3_init (l := l) HS1) (cwI 0 hts (bz_g0 wd_2_6) rfl rfl rfl (hts _ (List.mem_cons_of_mem _ wd_1_11)) (hts _ (List.mem_cons_of_mem _ wd_2_4)) (hts _ (List.mem_cons_of_mem _ wd_2_5)) rfl (by decide +kernel) ⟨Nat.le_of_ble_eq_true rfl, Nat.le_of_ble_eq_true rfl⟩) rfl hl.1 rfl (Nat.le_of_ble_eq_true rfl) ⟨Nat.le_of_ble_eq_true rfl, Nat.le_of_ble_eq_true rfl⟩ dX6_init_9 (fun H locs h => ?_)
  refine pF_6_0 C rfl hnm h ka0 (by omega) iz_X6 (List.mem_cons_of_mem _ wd_1_12) (by omega) dX6_init_12 (fun H locs h => ?_)
  have h : bz_HU G s _ H locs (a0 + 28) := h
  refine lv_aload_n hx hb dX6_init_15 rfl (lv_at hl 0 rfl) ?_
  refine bz_newc C h (ci := 1) (HH 0 (by omega)) rfl iz_X1 tyX1 tyX1_ok (List.mem_cons_of_mem _ wd_1_13) (List.mem_cons_of_mem _ wd_1_14) (List.mem_cons_of_mem _ wd_1_15) (fs := [.null, .int 0]) rfl (fun j hj => by rcases (show j = 0 ∨ j = 1 by omega) with rfl | rfl <;> rfl) (Nat.le_of_ble_eq_true rfl) (Nat.le_of_ble_eq_true rfl) dX6_init_16 (fun H h => ?_)
  refine lv_dup hx hb dX6_init_19 rfl ?_
  refine bz_callI (rest := [.ref (a0 + 28), .ref a0]) C h (As := []) (c_X1_init (l := l) HH) (cwI 0 hts (bz_g0 wd_3_18) rfl rfl rfl (hts _ (List.mem_cons_of_mem _ wd_1_15)) (hts _ (List.mem_cons_of_mem _ wd_3_16)) (hts _ (List.mem_cons_of_mem _ wd_3_17)) rfl (by decide +kernel) ⟨Nat.le_of_ble_eq_true rfl, Nat.le_of_ble_eq_true rfl⟩) rfl hl.1 rfl (Nat.le_of_ble_eq_true rfl) ⟨Nat.le_of_ble_eq_true rfl, Nat.le_of_ble_eq_true rfl⟩ dX6_init_20 (fun H locs h => ?_)
  refine pF_6_1 C rfl hnm h ka0 (by omega) iz_X6 (List.mem_cons_of_mem _ wd_1_16) (by omega) dX6_init_23 (fun H locs h => ?_)
  have h : bz_HU G s _ H locs (a0 + 138) := h
  refine lv_aload_n hx hb dX6_init_26 rfl (lv_at hl 0 rfl) ?_
  refine bz_newc C h (ci := 3) (HS2 0 (by omega)) rfl iz_X3 tyX3 tyX3_ok (List.mem_cons_of_mem _ wd_1_9) (List.mem_cons_of_mem _ wd_1_10) (List.mem_cons_of_mem _ wd_1_11) (fs := [.null, .null, .null, .int 0, .int 0, .int 0, .int 0, .int 0]) rfl (fun j hj => by rcases (show j = 0 ∨ j = 1 ∨ j = 2 ∨ j = 3 ∨ j = 4 ∨ j = 5 ∨ j = 6 ∨ j = 7 by omega) with rfl | rfl | rfl | rfl | rfl | rfl | rfl | rfl <;> rfl) (Nat.le_of_ble_eq_true rfl) (Nat.le_of_ble_eq_true rfl) dX6_init_27 (fun H h => ?_)
  refine lv_dup hx hb dX6_init_30 rfl ?_
  refine bz_callI (rest := [.ref (a0 + 138), .ref a0]) C h (As := []) (c_X3_init (l := l) HS2) (cwI 0 hts (bz_g0 wd_2_6) rfl rfl rfl (hts _ (List.mem_cons_of_mem _ wd_1_11)) (hts _ (List.mem_cons_of_mem _ wd_2_4)) (hts _ (List.mem_cons_of_mem _ wd_2_5)) rfl (by decide +kernel) ⟨Nat.le_of_ble_eq_true rfl, Nat.le_of_ble_eq_true rfl⟩) rfl hl.1 rfl (Nat.le_of_ble_eq_true rfl) ⟨Nat.le_of_ble_eq_true rfl, Nat.le_of_ble_eq_true rfl⟩ dX6_init_31 (fun H locs h => ?_)
  refine pF_6_2 C rfl hnm h ka0 (by omega) iz_X6 (List.mem_cons_of_mem _ wd_1_17) (by omega) dX6_init_34 (fun H locs h => ?_)
  have h : bz_HU G s _ H locs (a0 + 165) := h
  refine lv_aload_n hx hb dX6_init_37 rfl (lv_at hl 0 rfl) ?_
  refine bz_newc C h (ci := 5) (HB 165 (by omega)) rfl iz_X5 tyX5 tyX5_ok (List.mem_cons_of_mem _ wd_1_18) (List.mem_cons_of_mem _ wd_1_19) (List.mem_cons_of_mem _ wd_1_20) (fs := [.null, .int 0, .int 0, .int 0, .int 0, .int 0, .int 0]) rfl (fun j hj => by rcases (show j = 0 ∨ j = 1 ∨ j = 2 ∨ j = 3 ∨ j = 4 ∨ j = 5 ∨ j = 6 by omega) with rfl | rfl | rfl | rfl | rfl | rfl | rfl <;> rfl) (Nat.le_of_ble_eq_true rfl) (Nat.le_of_ble_eq_true rfl) dX6_init_38 (fun H h => ?_)
  refine lv_dup hx hb dX6_init_41 rfl ?_
  refine bz_callI (rest := [.ref (a0 + 165), .ref a0]) C h (As := []) (c_X5_init (l := l) (HB 165 (by omega)) (HB 166 (by omega))) (cwI 0 hts (bz_g0 wd_4_1) rfl rfl rfl (hts _ (List.mem_cons_of_mem _ wd_1_20)) (hts _ (List.mem_cons_of_mem _ wd_3_23)) (hts _ (List.mem_cons_of_mem _ wd_4_0)) rfl (by decide +kernel) ⟨Nat.le_of_ble_eq_true rfl, Nat.le_of_ble_eq_true rfl⟩) rfl hl.1 rfl (Nat.le_of_ble_eq_true rfl) ⟨Nat.le_of_ble_eq_true rfl, Nat.le_of_ble_eq_true rfl⟩ dX6_init_42 (fun H locs h => ?_)
  refine pF_6_4 C rfl hnm h ka0 (by omega) iz_X6 (List.mem_cons_of_mem _ wd_1_21) (by omega) dX6_init_45 (fun H locs h => ?_)
  have h : bz_HU G s _ H locs (a0 + 167) := h
  refine lv_aload_n hx hb dX6_init_48 rfl (lv_at hl 0 rfl) ?_
  refine bz_newc C h (ci := 4) (HB 167 (by omega)) rfl iz_X4 tyX4 tyX4_ok (List.mem_cons_of_mem _ wd_1_22) (List.mem_cons_of_mem _ wd_1_23) (List.mem_cons_of_mem _ wd_2_0) (fs := [.null, .null, .null, .null, .int 0, .int 0]) rfl (fun j hj => by rcases (show j = 0 ∨ j = 1 ∨ j = 2 ∨ j = 3 ∨ j = 4 ∨ j = 5 by omega) with rfl | rfl | rfl | rfl | rfl | rfl <;> rfl) (Nat.le_of_ble_eq_true rfl) (Nat.le_of_ble_eq_true rfl) dX6_init_49 (fun H h => ?_)
  refine lv_dup hx hb dX6_init_52 rfl ?_
  refine bz_callI (rest := [.ref (a0 + 167), .ref a0]) C h (As := []) (c_X4_init (l := l) (HB 167 (by omega)) (HB 168 (by omega)) (HB 169 (by omega)) (HB 170 (by omega)) (HB 171 (by omega))) (cwI 0 hts (bz_g0 wd_3_3) rfl rfl rfl (hts _ (List.mem_cons_of_mem _ wd_2_0)) (hts _ (List.mem_cons_of_mem _ wd_4_5)) (hts _ (List.mem_cons_of_mem _ wd_3_2)) rfl (by decide +kernel) ⟨Nat.le_of_ble_eq_true rfl, Nat.le_of_ble_eq_true rfl⟩) rfl hl.1 rfl (Nat.le_of_ble_eq_true rfl) ⟨Nat.le_of_ble_eq_true rfl, Nat.le_of_ble_eq_true rfl⟩ dX6_init_53 (fun H locs h => ?_)
  refine pF_6_5 C rfl hnm h ka0 (by omega) iz_X6 (List.mem_cons_of_mem _ wd_2_1) (by omega) dX6_init_56 (fun H locs h => ?_)
  have h : bz_HU G s _ H locs (a0 + 172) := h
  refine lv_aload_n hx hb dX6_init_59 rfl (lv_at hl 0 rfl) ?_
  refine lv_bipush (v := 8) hx hb dX6_init_60 (by decide) ?_
  refine bz_newi C h (N := 8) (HB 172 (by omega)) (List.mem_cons_of_mem _ wd_2_2) (by decide) (by decide) (by decide) (Nat.le_of_ble_eq_true rfl) (Nat.le_of_ble_eq_true rfl) dX6_init_62 (fun H h => ?_)
  refine pF_6_6 C rfl hnm h ka0 (by omega) iz_X6 (List.mem_cons_of_mem _ wd_2_3) (by omega) dX6_init_64 (fun H locs h => ?_)
  exact bz_vretI C (mc := 172) (ms := 1779) (sz0 := a0 + 1) h hlocks hr rfl rfl rfl dX6_init_67
