/-! law, undo -/
theorem p_law {d T : Nat} {tF tV tU : Nat → Nat} {tS : Nat → Nat → Nat} {ru_from ru_voted ru_undone ru_says : Nat → Int32} {ru_texts : Int32} {mm_toldOn mm_fromDay mm_undoneOn mm_values : Nat → Int32} {mm_texts hh_today mm_today mm_thrown x1 x2 x3 : Int32} {P : Int32 → Prop}
    (hR : R_rules d T tF tV tU tS ru_from ru_voted ru_undone ru_says ru_texts mm_toldOn mm_fromDay mm_undoneOn mm_values mm_texts) (hd : d < 100) (e1 : hh_today = nI d) (e2 : mm_today = nI d) (hP : P 0) :
    wp_X7_law hh_today ru_from ru_voted ru_undone ru_says ru_texts x1 x2 x3 (fun r => wp_X8_law mm_thrown mm_today mm_toldOn mm_fromDay mm_undoneOn mm_values mm_texts x1 x2 x3 (fun q t => r = q ∧ P t)) := by
  subst e1 e2
  unfold wp_X7_law wp_X8_law
  simp only [isBelow_iff, hasCome_iff]
  rcases rng 7 x1 (by omega) with h | ⟨h1, h2, h3⟩ | ⟨j1, hj1, E1, h1, h2, h3⟩
  · simp [h, hP]
  · replace h2 : (8 : Int32) ≤ x1 := h2
    replace h3 : (7 : Int32) < x1 := h3
    simp [h1, h2, h3, hP]
  replace h2 : ¬ (8 : Int32) ≤ x1 := h2
  replace h3 : ¬ (7 : Int32) < x1 := h3
  rcases rng 99 x2 (by omega) with g | ⟨g1, g2, g3⟩ | ⟨j2, hj2, E2, g1, g2, g3⟩
  · simp [h1, h2, h3, g, hP]
  · replace g2 : (100 : Int32) ≤ x2 := g2
    replace g3 : (99 : Int32) < x2 := g3
    simp [h1, h2, h3, g1, g2, g3, hP]
  replace g2 : ¬ (100 : Int32) ≤ x2 := g2
  replace g3 : ¬ (99 : Int32) < x2 := g3
  rcases come d x3 (by omega) with k | ⟨k1, k2, k3⟩ | ⟨j3, hj3, E3, k1, k2, k3⟩
  · simp [h1, h2, h3, g1, g2, g3, k, hP]
  · simp [h1, h2, h3, g1, g2, g3, k1, k2, k3, hP]
  simp only [h1, h2, h3, g1, g2, g3, k1, k2, k3, one0, or_self, not_false_eq_true, not_true_eq_false, false_implies, true_implies, true_and, and_true]
  subst E1 E2 E3
  exact said_ok hR hd hj1 (by omega) (by omega) (lawOf_ok hR hd hj1 (by omega) (by omega) ⟨rfl, hP⟩)
theorem p_undo {d T : Nat} {tF tV tU : Nat → Nat} {tS : Nat → Nat → Nat} {ru_from ru_voted ru_undone ru_says : Nat → Int32} {ru_texts : Int32} {mm_toldOn mm_fromDay mm_undoneOn mm_values : Nat → Int32} {mm_texts hh_today mm_today mm_thrown x1 : Int32} {P : Int32 → (Nat → Int32) → Int32 → (Nat → Int32) → Prop}
    (hR : R_rules d T tF tV tU tS ru_from ru_voted ru_undone ru_says ru_texts mm_toldOn mm_fromDay mm_undoneOn mm_values mm_texts) (hd : d < 100) (e1 : hh_today = nI d) (e2 : mm_today = nI d) (h0 : P 0 ru_undone 0 mm_undoneOn)
    (hP : ∀ (t : Nat) (a b : Nat → Int32), t < T → tU t = 1000 → R_rules d T tF tV (ap tU t d) tS ru_from ru_voted a ru_says ru_texts mm_toldOn mm_fromDay b mm_values mm_texts → P 1 a 0 b) :
    wp_X7_undo hh_today ru_undone ru_texts x1 (fun r u => wp_X8_undo mm_thrown mm_today mm_undoneOn mm_texts x1 (fun q t v => r = q ∧ P r u t v)) := by
  obtain ⟨hT, rfl, rfl, r1, r2, hF, r3, r4, hV, hU0, hU, hs, hs2, hs3⟩ := hR
  subst e1 e2
  unfold wp_X7_undo wp_X8_undo
  rw [isBelow_iff]
  by_cases n0 : x1 < 0
  · simp [n0, h0]
  by_cases nT : nI T ≤ x1
  · simp [n0, nT, h0]
  obtain ⟨j, hj, E⟩ : ∃ j, j < T ∧ x1 = nI j := by
    rcases pk_ix x1 (n := T) (by omega) with h | h | h
    · exact absurd h n0
    · exact absurd h nT
    · exact h
  simp only [n0, nT, or_self, not_false_eq_true, not_true_eq_false, one0, false_implies, true_implies, true_and, wp_X4_strike]
  subst E
  have hin : vp_in (nI j) 10 := vp_in_nI (by omega) (by omega)
  have hcl : (nI j).toNatClampNeg = j := nI_clamp (by omega)
  rw [hcl, hU j hj]
  refine ⟨hin, ?_⟩
  rcases hU0 j hj with ⟨u1, u2⟩ | ⟨u1, u2⟩
  · rw [u2, u1]
    refine br_t rfl ⟨hin, hin, br_t rfl ⟨hin, ?_⟩⟩
    refine hP j _ _ hj u1 ⟨hT, rfl, rfl, r1, r2, hF, r3, r4, hV, fun t ht => ?_, rw_upd hU, hs, hs2, hs3⟩
    by_cases e : t = j
    · subst e
      rw [ap_s]
      exact Or.inr ⟨Nat.le_refl _, pk_us⟩
    · rw [ap_n e, pk_un e]
      exact hU0 t ht
  · rw [u2]
    have hn : ¬ nI (tU j) = 1000 := fun q => by
      have := (nI_eq (a := tU j) (b := 1000) (by omega) (by omega)).mp q
      omega
    exact br_f (ne_m1 (by omega)) ⟨⟨hin, br_f hn h0⟩, trivial⟩
