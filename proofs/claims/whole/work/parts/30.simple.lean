/-! fault, count: nothing changes -/
theorem p_fault {rd_fault rd_faultPlace mm_thrown mm_lastFault mm_lastPlace x1 : Int32} {P : Int32 → Prop} (h1 : rd_fault = mm_lastFault) (h2 : rd_faultPlace = mm_lastPlace) (hP : P 0) : wp_X7_fault rd_fault rd_faultPlace x1 (fun r => wp_X8_fault mm_thrown mm_lastFault mm_lastPlace x1 (fun q t => r = q ∧ P t)) := by
  subst h1 h2
  unfold wp_X7_fault wp_X8_fault
  by_cases a : x1 = 0
  · simp [a, hP]
  · by_cases b : x1 = 1
    · simp [b, hP]
    · simp [a, b, hP]
def R_crew (d W : Nat) (bk sg : Nat → Nat) (cr_book cr_signed : Nat → Int32) (cr_size : Int32) (mm_books mm_signed : Nat → Int32) (mm_workers : Int32) : Prop :=
  W ≤ 16 ∧ cr_size = nI W ∧ mm_workers = nI W ∧ rw_ W cr_book bk ∧ rw_ W mm_books bk ∧ rw_ W cr_signed sg ∧ rw_ W mm_signed sg ∧ (∀ w, w < W → bk w < 3) ∧ ∀ w, w < W → sg w ≤ d
theorem p_worker {d W : Nat} {bk sg : Nat → Nat} {hh_today mm_today mm_thrown : Int32} {cr_book cr_signed mm_books mm_signed : Nat → Int32} {cr_size mm_workers x1 : Int32} {P : Int32 → (Nat → Int32) → (Nat → Int32) → Int32 → Int32 → (Nat → Int32) → (Nat → Int32) → Int32 → Prop}
    (hd : hh_today = nI d) (hm : mm_today = nI d) (hR : R_crew d W bk sg cr_book cr_signed cr_size mm_books mm_signed mm_workers)
    (h0 : P (-1) cr_book cr_signed cr_size 0 mm_books mm_signed mm_workers)
    (h1 : ∀ (b : Nat) (a1 a2 a3 a4 : Nat → Int32), W < 16 → R_crew d (W + 1) (ap bk W b) (ap sg W d) a1 a2 (nI (W + 1)) a3 a4 (nI (W + 1)) → P (nI W) a1 a2 (nI (W + 1)) 0 a3 a4 (nI (W + 1))) :
    wp_X7_worker hh_today cr_book cr_signed cr_size x1 (fun r b' s' n' => wp_X8_worker mm_thrown mm_today mm_books mm_signed mm_workers x1 (fun q t bb ss ww => r = q ∧ P r b' s' n' t bb ss ww)) := by
  obtain ⟨hW, e1, e2, r1, r2, r3, r4, hb, hs⟩ := hR
  subst e1 e2 hd hm
  unfold wp_X7_worker wp_X8_worker
  rw [isBelow_iff, show (3 : Int32) = nI (2 + 1) from rfl, i_succ x1 (by omega)]
  rcases pk_ix x1 (n := 3) (by omega) with hx | hx | ⟨j, hj, rfl⟩
  · simp [hx, h0]
  · have hx' : nI 2 < x1 := (i_succ x1 (by omega)).mp hx
    have hx2 : (2 : Int32) < x1 := hx'
    by_cases hn : x1 < 0
    · simp [hn, h0]
    · simp [hn, hx', hx2, h0]
  · have a1 : ¬ nI j < 0 := nI_pos (by omega)
    have a2 : ¬ nI 2 < nI j := nI_nlt (by omega) (by omega)
    have a2' : ¬ (2 : Int32) < nI j := a2
    by_cases hw : W < 16
    · have a3 : nI W < 16 := nI_lt (b := 16) hw (by omega)
      have a4 : ¬ nI W = 16 := fun q => by have := (nI_eq (a := W) (b := 16) (by omega) (by omega)).mp q; omega
      have a5 : vp_in (nI W) 16 := vp_in_nI hw (by omega)
      have a6 : nI W + 1 = nI (W + 1) := nI_1 W
      have a7 : nI (W + 1) - 1 = nI W := nI_pred W
      simp only [wp_X1_add, a1, a2, a2', a3, a4, a5, a6, a7, or_self, not_false_eq_true, false_implies, true_implies, true_and, and_true, not_true_eq_false, forall_eq, nI_clamp (show W < 2 ^ 31 by omega)]
      refine ⟨fun q => absurd q (by decide), fun _ => ?_⟩
      exact h1 j _ _ _ _ hw ⟨by omega, rfl, rfl, rw_ap r1, rw_ap r2, rw_ap r3, rw_ap r4, fun w hw' => by
        by_cases e : w = W
        · subst e; rw [ap_s]; exact hj
        · rw [ap_n e]; exact hb w (by omega), fun w hw' => by
        by_cases e : w = W
        · subst e; rw [ap_s]; exact Nat.le_refl _
        · rw [ap_n e]; exact hs w (by omega)⟩
    · have hW16 : W = 16 := by omega
      subst hW16
      have a3 : ¬ nI 16 < 16 := by decide
      have a4 : nI 16 = 16 := rfl
      simp only [a1, a2, a2', a3, a4, or_self, not_false_eq_true, false_implies, true_implies, true_and, and_true, not_true_eq_false]
      exact ⟨fun q => absurd q (by decide), fun _ => ⟨fun q => absurd q (by decide), fun _ => h0⟩⟩
