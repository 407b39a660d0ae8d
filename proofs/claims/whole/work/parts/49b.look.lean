/-! look: by what floor and the reference's kept rows hold of each worker -/
theorem p_look {d W : Nat} {bk sg : Nat → Nat} {fl_job fl_refusals cr_book cr_signed mm_books mm_signed mm_keptCall mm_keptRefusals : Nat → Int32} {cr_size mm_workers mm_today mm_thrown x1 x2 : Int32} {P : Int32 → Prop}
    (hR : R_crew d W bk sg cr_book cr_signed cr_size mm_books mm_signed mm_workers) (hd : d < 100) (e2 : mm_today = nI d) (hJ : ∀ w, w < W → fl_job w = if sg w < d then mm_keptCall w else -1) (hF : ∀ w, w < W → fl_refusals w = mm_keptRefusals w) (hP : P 0) :
    wp_X7_look fl_job fl_refusals cr_book cr_signed cr_size x1 x2 (fun r => wp_X8_look mm_thrown mm_today mm_books mm_signed mm_workers mm_keptCall mm_keptRefusals x1 x2 (fun q t => r = q ∧ P t)) := by
  obtain ⟨hW, rfl, rfl, r1, r2, r3, r4, hb, hs⟩ := hR
  subst e2
  unfold wp_X7_look wp_X8_look
  simp only [isBelow_iff, isWorker_iff]
  by_cases a0 : x1 < 0
  · simp [a0, hP]
  by_cases a1 : nI W ≤ x1
  · simp [a0, a1, hP]
  obtain ⟨w, hw, rfl⟩ := inW (by omega) a0 a1
  have hcl : (nI w).toNatClampNeg = w := nI_clamp (by omega)
  have hin : vp_in (nI w) 16 := vp_in_nI (by omega) (by omega)
  have hsw := hs w hw
  simp only [a0, a1, hcl, hin, r1 w hw, r2 w hw, r3 w hw, r4 w hw, hF w hw, hJ w hw, one0, or_self, not_false_eq_true, not_true_eq_false, false_implies, true_implies, true_and, and_true]
  by_cases b0 : x2 = 0
  · simp [b0, hP]
  by_cases b1 : x2 = 1
  · simp [b1, hP]
  by_cases b2 : x2 = 2
  · subst b2
    simp only [show ¬ (2 : Int32) = 0 by decide, show ¬ (2 : Int32) = 1 by decide, not_false_eq_true, not_true_eq_false, false_implies, true_implies, true_and, and_true]
    by_cases c : sg w < d
    · rw [if_pos c]
      exact pk_le d (sg w) (fun h => absurd h (by omega)) (fun _ => ⟨rfl, hP⟩)
    · rw [if_neg c]
      exact pk_le d (sg w) (fun _ => ⟨rfl, hP⟩) (fun h => absurd h (by omega))
  by_cases b3 : x2 = 3
  · simp [b3, hP]
  simp [b0, b1, b2, b3, hP]
