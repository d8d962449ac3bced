/-! the digest speaks of the row's first 246 cells -/
theorem motV_congr {r r' : Nat → Int32} (h : ∀ x, x < 246 → r' x = r x) {i : Nat} (hi : i < 8) (w : Nat) (hw : w ≤ 12) : motV r' i w = motV r i w := by
  unfold motV drawR credR peakR
  rw [h (8 + 20 * i + 5) (by omega), h (8 + 20 * i + 8) (by omega), h 1 (by omega), h (8 + 20 * i + 9) (by omega), h (8 + 20 * i) (by omega), h (8 + 20 * i + 2) (by omega), h (8 + 20 * i + 1) (by omega), h (8 + 20 * i + 7) (by omega), h (8 + 20 * i + 11) (by omega), h (8 + 20 * i + 3) (by omega), h (8 + 20 * i + 6) (by omega), h (8 + 20 * i + w) (by omega)]
theorem drawR_congr {r r' : Nat → Int32} (h : ∀ x, x < 246 → r' x = r x) {i : Nat} (hi : i < 8) : drawR r' i = drawR r i := by
  unfold drawR peakR
  rw [h (8 + 20 * i + 5) (by omega), h (8 + 20 * i + 8) (by omega), h (8 + 20 * i) (by omega), h (8 + 20 * i + 2) (by omega), h (8 + 20 * i + 1) (by omega), h (8 + 20 * i + 7) (by omega)]
theorem evV_congr {r r' : Nat → Int32} (h : ∀ x, x < 246 → r' x = r x) (e w : Nat) (hw : w ≤ 2) : evV r' e w = evV r e w := by
  unfold evV
  have hm : (vN (r 6) - 1 - e) % 10 < 10 := Nat.mod_lt _ (by omega)
  rw [h 6 (by omega), h (216 + 3 * ((vN (r 6) - 1 - e) % 10) + w) (by omega)]
theorem cntV_congr {r r' : Nat → Int32} {cnt : Nat} (h : ∀ x, x < 246 → r' x = r x) (hc : cnt ≤ 8) (w : Nat) : cntV r' cnt 0 0 w = cntV r cnt 0 0 w := by
  have f1 : fsum (fun i => if r' (8 + 20 * i + 5) = nI w then 1 else 0) cnt = fsum (fun i => if r (8 + 20 * i + 5) = nI w then 1 else 0) cnt := fsum_congr cnt (fun i hi => by
    show (if r' (8 + 20 * i + 5) = nI w then (1 : Int32) else 0) = if r (8 + 20 * i + 5) = nI w then 1 else 0
    rw [h (8 + 20 * i + 5) (by omega)])
  have f2 : ∀ v, v < 20 → fsum (fun i => r' (8 + 20 * i + v)) cnt = fsum (fun i => r (8 + 20 * i + v)) cnt := fun v hv => fsum_congr cnt (fun i hi => h _ (by omega))
  have f3 : fsum (drawR r') cnt = fsum (drawR r) cnt := fsum_congr cnt (fun i hi => drawR_congr h (by omega))
  unfold cntV
  rw [f1, f2 12 (by omega), f2 13 (by omega), f2 6 (by omega), f3, h 0 (by omega), h 1 (by omega), h 2 (by omega), h 3 (by omega), h 4 (by omega), h 5 (by omega), h 6 (by omega)]
theorem d43_congr {r r' : Nat → Int32} {a : Int64} (h : ∀ x, x < 246 → r' x = r x) : ∀ n, n ≤ 8 → d43 r' a n = d43 r a n
  | 0, _ => rfl
  | n + 1, hn => by
    unfold d43
    rw [d43_congr h n (by omega), d55_congr (f := motV r' n) (g := motV r n) (m := 13) (fun j hj => motV_congr h (i := n) (by omega) j (by omega)) 13 (Nat.le_refl _)]
    exact d55_congr (m := 7) (fun j hj => h _ (by omega)) 7 (Nat.le_refl _)
theorem d122_congr {r r' : Nat → Int32} {a : Int64} (h : ∀ x, x < 246 → r' x = r x) : ∀ n, d122 r' a n = d122 r a n
  | 0 => rfl
  | n + 1 => by
    unfold d122
    rw [d122_congr h n, evV_congr h n 0 (by omega), evV_congr h n 1 (by omega), evV_congr h n 2 (by omega)]
theorem digV_congr {r r' : Nat → Int32} {cnt : Nat} (h : ∀ x, x < 246 → r' x = r x) (hc : cnt ≤ 8) : digV r' cnt = digV r cnt := by
  unfold digV
  rw [d6_congr (g := cntV r cnt 0 0) (fun j hj _ => cntV_congr h hc j) 16 (Nat.le_refl _), d43_congr h cnt hc, d122_congr h 10]
