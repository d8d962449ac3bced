/-! the queue of a row: there is one, and one only; how many are ahead -/
theorem line_ex (r : Nat → Int32) : ∀ n, ∃ l, LineOK r n l
  | 0 => ⟨[], List.Perm.refl _, List.Pairwise.nil⟩
  | n + 1 => by
    obtain ⟨l, h1, h2⟩ := line_ex r n
    have hf : (List.range (n + 1)).filter (wtB r) = (List.range n).filter (wtB r) ++ (if wtB r n = true then [n] else []) := by
      rw [List.range_succ, List.filter_append]
      congr 1
      by_cases h : wtB r n = true
      · simp [h]
      · simp [h]
    by_cases hw : wtB r n = true
    · obtain ⟨w, w1, w2⟩ := pk_least (fun p => p = l.length ∨ (p < l.length ∧ ahB r n (l.getD p 0) = true)) ⟨l.length, Or.inl rfl⟩
      have hwl : w ≤ l.length := by rcases w1 with w1 | w1 <;> omega
      refine ⟨ins n l w, ?_, ins_pair n l w h2 (fun p hp hpl => ?_) (fun p hp hpl => ?_)⟩
      · rw [hf, if_pos hw]
        exact (ins_perm n l w).trans ((List.Perm.cons n h1).trans (List.perm_append_singleton n _).symm)
      · have hne : ¬ ahB r n (l.getD p 0) = true := fun e => w2 p hp (Or.inr ⟨hpl, e⟩)
        have hlt : l.getD p 0 < n := ((LineOK.mem (r := r) (j := n) (l := l) ⟨h1, h2⟩ _).mp (getD_mem hpl)).1
        rcases ah_total r (show l.getD p 0 ≠ n by omega) with e | e
        · exact ahB_iff.mpr e
        · exact absurd (ahB_iff.mpr e) hne
      · have hwl2 : w < l.length := by omega
        have hw1 : ahB r n (l.getD w 0) = true := by
          rcases w1 with w1 | w1
          · omega
          · exact w1.2
        by_cases e : p = w
        · rw [e]
          exact hw1
        · have := pair_getD l h2 w p (by omega) hpl
          exact ahB_iff.mpr (ah_trans (ahB_iff.mp hw1) (ahB_iff.mp this))
    · exact ⟨l, by rw [hf, if_neg hw, List.append_nil]; exact h1, h2⟩
theorem LineOK.uniq {r : Nat → Int32} {n : Nat} {l l' : List Nat} (h : LineOK r n l) (h' : LineOK r n l') : l = l' := by
  have hlen : l.length = l'.length := h.1.length_eq.trans h'.1.length_eq.symm
  have key : ∀ p, p < l.length → l.getD p 0 = l'.getD p 0 := by
    intro p hp
    obtain ⟨p', hp', e⟩ := mem_getD ((h'.mem _).mpr ((h.mem _).mp (getD_mem hp)))
    have e1 := h.place hp
    have e2 := h'.place hp'
    rw [e, e1] at e2
    rw [← e, e2]
  apply List.ext_getElem hlen
  intro i h1 h2
  have := key i h1
  rw [List.getD_eq_getElem?_getD, List.getD_eq_getElem?_getD, List.getElem?_eq_getElem h1, List.getElem?_eq_getElem h2] at this
  exact this
theorem cnt_off (f : Nat → Nat) : ∀ (l : List Nat) (o q : Nat), (∀ p, p < l.length → f (l.getD p 0) = o + p) → (l.filter (fun x => decide (f x < q))).length = min l.length (q - o)
  | [], o, q, _ => by simp
  | a :: l, o, q, h => by
    have h0 : f a = o := h 0 (by simp)
    have ih := cnt_off f l (o + 1) q (fun p hp => by
      have := h (p + 1) (by simpa using hp)
      simp only [List.getD_cons_succ] at this
      omega)
    rw [List.filter_cons]
    by_cases hq : o < q
    · rw [if_pos (by rw [h0]; exact decide_eq_true hq), List.length_cons, ih, List.length_cons]
      omega
    · rw [if_neg (by rw [h0]; simpa using hq), ih, List.length_cons]
      omega
/-- those ahead of the place q -/
theorem LineOK.ahead {r : Nat → Int32} {n : Nat} {l : List Nat} (h : LineOK r n l) {q : Nat} (hq : q ≤ l.length) : ((List.range n).filter (fun x => wtB r x && decide (pcnt r x n < q))).length = q := by
  have e1 := cnt_off (fun x => pcnt r x n) l 0 q (fun p hp => by rw [Nat.zero_add]; exact h.place hp)
  have e2 : (l.filter (fun x => decide (pcnt r x n < q))).length = (((List.range n).filter (wtB r)).filter (fun x => decide (pcnt r x n < q))).length := (h.1.filter _).length_eq
  rw [List.filter_filter] at e2
  have e3 : (List.range n).filter (fun x => wtB r x && decide (pcnt r x n < q)) = (List.range n).filter (fun x => decide (pcnt r x n < q) && wtB r x) := List.filter_congr (fun x _ => Bool.and_comm _ _)
  rw [e3, ← e2, e1]
  omega
theorem fsum_pi (r : Nat → Int32) (S : Nat → Bool) (N : Nat) : ∀ n, n ≤ N → fsum (fun i => piR r S N (8 + 20 * i + 18)) n = fsum (fun i => r (8 + 20 * i + 18)) n + nI ((List.range n).filter S).length
  | 0, _ => rfl
  | n + 1, h => by
    rw [fsum, fsum, fsum_pi r S N n (by omega), piR_in N (by omega), List.range_succ, List.filter_append, List.length_append]
    by_cases hS : S n = true
    · rw [if_pos hS, show ([n].filter S).length = 1 by simp [hS], ← nI_1, Int32.add_assoc, Int32.add_assoc, ← Int32.add_assoc (nI _) (r _), Int32.add_comm (nI _) (r _), Int32.add_assoc (r _)]
    · rw [if_neg hS, show ([n].filter S).length = 0 by simp [hS], Int32.add_assoc, Int32.add_assoc, Int32.add_comm (nI _)]
      rfl
