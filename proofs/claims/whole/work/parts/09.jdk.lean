theorem c_J0_length_8abf5 {l : Launch} {G : bz_G} {σ : bz_W} {a0 : Nat} (ka0 : a0 < 5) {res : Int32 × bz_W} (hF : f_J0_length_8abf5 σ a0 = some res) : bz_M l yJ0_length_8abf5 wz_J0_length_8abf5 1 24 G σ [.ref (bz_aK G a0)] (some (.int res.1)) res.2 := by
  sorry
theorem c_J0_charAt_5068e {l : Launch} {G : bz_G} {σ : bz_W} {a0 : Nat} {x1_ : Int32} (ka0 : a0 < 5) {res : Int32 × bz_W} (hF : f_J0_charAt_5068e σ a0 x1_ = some res) : bz_M l yJ0_charAt_5068e wz_J0_charAt_5068e 4 100 G σ [.ref (bz_aK G a0), .int x1_] (some (.int res.1)) res.2 := by
  sorry
