theorem p_list {nb : Nat → Nat} {lw : Nat → Nat → Nat} {fr : Nat → Prop} {fl_lists fl_listSize fl_job mm_keptRow mm_keptMany mm_keptOn : Nat → Int32} {mm_thrown x1 x2 : Int32} {P : Int32 → Prop}
    (hn : ∀ b, b < 3 → nb b ≤ 16 ∧ fl_listSize b = nI (nb b) ∧ mm_keptMany b = nI (nb b)) (hl : ∀ b k, b < 3 → k < nb b → lw b k < 16 ∧ fl_lists (b * 16 + k) = nI (lw b k) ∧ mm_keptRow (16 * b + k) = nI (lw b k)) (hj : ∀ w, w < 16 → (fl_job w = -1 ↔ fr w)) (hj2 : ∀ w, w < 16 → (mm_keptOn w = 0 ↔ fr w)) (hP : P 0) :
    wp_X7_list fl_lists fl_listSize fl_job x1 x2 (fun r => wp_X8_list mm_thrown mm_keptRow mm_keptMany mm_keptOn x1 x2 (fun q t => r = q ∧ P t)) := by
  unfold wp_X7_list wp_X8_list
  simp only [isBelow_iff]
  rcases rng 2 x1 (by omega) with h | ⟨b1, b2, b3⟩ | ⟨b, hb, E1, b1, b2, b3⟩
  · simp [h, hP]
  · replace b2 : (3 : Int32) ≤ x1 := b2
    replace b3 : (2 : Int32) < x1 := b3
    simp [b1, b2, b3, hP]
  replace b2 : ¬ (3 : Int32) ≤ x1 := b2
  replace b3 : ¬ (2 : Int32) < x1 := b3
  by_cases c : 0 ≤ x2
  · obtain ⟨k, hk, E2⟩ := nI_of (x := x2) (fun q => by rw [i_lt] at q; rw [i_le] at c; omega)
    simp only [b1, b2, b3, c, one0, or_self, not_false_eq_true, not_true_eq_false, false_implies, true_implies, true_and, and_true]
    subst E1 E2
    obtain ⟨n1, n2, n3⟩ := hn b hb
    unfold wp_X2_freeOnList
    refine ⟨nb b + 1, fr_c hb n1 n2 (fun i hi => ⟨(hl b i hb hi).1, (hl b i hb hi).2.1⟩) hj (nb b) 0 k (by omega) (by omega) ?_⟩
    refine ⟨nb b + 1, fr_r hb n1 (by omega) n3 (fun i hi => ⟨(hl b i hb hi).1, (hl b i hb hi).2.2⟩) hj2 (nb b) 0 0 (by omega) (by omega) ?_⟩
    rw [Nat.sub_zero]
    exact ⟨rfl, hP⟩
  · simp [b1, b2, b3, c, hP]
