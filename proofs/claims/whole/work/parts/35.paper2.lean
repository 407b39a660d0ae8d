/-! a paper is told -/
theorem paper_add {d P w s t l : Nat} {pW pS pT pL : Nat → Nat} {f1 f2 f3 f4 : Nat → Int32} {g1 g2 g3 g4 : Nat → Int32}
    (hR : R_paper d P pW pS pT pL f1 f2 f3 f4 (nI P) g1 g2 g3 g4 (nI P)) (hP : P < 100) (hw : w < 16) (hs : s < 8) (ht : t ≤ d) (hl : l < 100) :
    R_paper d (P + 1) (ap pW P w) (ap pS P s) (ap pT P t) (ap pL P l) (upd f1 (8 * w + s) (nI P)) (upd f2 P (f1 (8 * w + s))) (upd f3 P (nI l)) (upd f4 P (nI t)) (nI (P + 1)) (upd g1 P (nI w)) (upd g2 P (nI s)) (upd g3 P (nI t)) (upd g4 P (nI l)) (nI (P + 1)) := by
  obtain ⟨-, -, -, w1, s1, t1, t2, l1, l2, hlat, hbef, hrg⟩ := hR
  have old : ∀ j, j < P → (fun k => 8 * ap pW P w k + ap pS P s k) j = (fun k => 8 * pW k + pS k) j := fun j hj => by
    show 8 * ap pW P w j + ap pS P s j = 8 * pW j + pS j
    rw [ap_n (by omega), ap_n (by omega)]
  have new : (fun k => 8 * ap pW P w k + ap pS P s k) P = 8 * w + s := by
    show 8 * ap pW P w P + ap pS P s P = 8 * w + s
    rw [ap_s, ap_s]
  refine ⟨by omega, rfl, rfl, rw_ap w1, rw_ap s1, rw_ap t1, rw_ap t2, rw_ap l1, rw_ap l2, fun q hq => ?_, fun k hk => ?_, fun k hk => ?_⟩
  · rw [lastM, show 8 * ap pW P w P + ap pS P s P = 8 * w + s from new]
    by_cases e : q = 8 * w + s
    · subst e; rw [if_pos rfl]; exact pk_us
    · rw [if_neg (fun h => e h.symm), pk_un e, hlat q hq, lastM_congr old]
  · by_cases e : k = P
    · subst e
      rw [pk_us, ap_s, ap_s, hlat _ (by omega), lastM_congr old]
    · rw [pk_un e, ap_n e, ap_n e, hbef k (by omega), lastM_congr (fun j hj => old j (by omega))]
  · by_cases e : k = P
    · subst e; rw [ap_s, ap_s, ap_s, ap_s]; exact ⟨hw, hs, ht, hl⟩
    · rw [ap_n e, ap_n e, ap_n e, ap_n e]; exact hrg k (by omega)
theorem p_paper {d W P : Nat} {pW pS pT pL : Nat → Nat} {cr_latestPaper cr_paperBefore cr_paperLast cr_paperTold : Nat → Int32} {cr_papers cr_size : Int32} {mm_paperWorker mm_paperSkill mm_paperTold mm_paperLast : Nat → Int32} {mm_papers mm_workers hh_today mm_today mm_thrown x1 x2 x3 : Int32}
    {Q : Int32 → (Nat → Int32) → (Nat → Int32) → (Nat → Int32) → (Nat → Int32) → Int32 → Int32 → (Nat → Int32) → (Nat → Int32) → (Nat → Int32) → (Nat → Int32) → Int32 → Prop}
    (hR : R_paper d P pW pS pT pL cr_latestPaper cr_paperBefore cr_paperLast cr_paperTold cr_papers mm_paperWorker mm_paperSkill mm_paperTold mm_paperLast mm_papers) (hW : W ≤ 16) (w1 : cr_size = nI W) (w2 : mm_workers = nI W) (hd : d < 100) (e1 : hh_today = nI d) (e2 : mm_today = nI d)
    (h0 : Q 0 cr_latestPaper cr_paperBefore cr_paperLast cr_paperTold cr_papers 0 mm_paperWorker mm_paperSkill mm_paperTold mm_paperLast mm_papers)
    (hQ : ∀ (w s l : Nat) (f1 f2 f3 f4 g1 g2 g3 g4 : Nat → Int32), P < 100 → w < W → R_paper d (P + 1) (ap pW P w) (ap pS P s) (ap pT P d) (ap pL P l) f1 f2 f3 f4 (nI (P + 1)) g1 g2 g3 g4 (nI (P + 1)) → Q 1 f1 f2 f3 f4 (nI (P + 1)) 0 g1 g2 g3 g4 (nI (P + 1))) :
    wp_X7_paper hh_today cr_size cr_latestPaper cr_paperBefore cr_paperLast cr_paperTold cr_papers x1 x2 x3 (fun r f1 f2 f3 f4 n => wp_X8_paper mm_thrown mm_today mm_workers mm_paperWorker mm_paperSkill mm_paperTold mm_paperLast mm_papers x1 x2 x3 (fun q t g1 g2 g3 g4 k => r = q ∧ Q r f1 f2 f3 f4 n t g1 g2 g3 g4 k)) := by
  have hR' := hR
  obtain ⟨hP, rfl, rfl, -⟩ := hR
  subst w1 w2 e1 e2
  unfold wp_X7_paper wp_X8_paper
  simp only [isBelow_iff, isWorker_iff]
  by_cases a0 : x1 < 0
  · simp [a0, h0]
  by_cases a1 : nI W ≤ x1
  · simp [a0, a1, h0]
  rcases rng 7 x2 (by omega) with h | ⟨b1, b2, b3⟩ | ⟨s, hs, E2, b1, b2, b3⟩
  · simp [a0, a1, h, h0]
  · replace b2 : (8 : Int32) ≤ x2 := b2
    replace b3 : (7 : Int32) < x2 := b3
    simp [a0, a1, b1, b2, b3, h0]
  replace b2 : ¬ (8 : Int32) ≤ x2 := b2
  replace b3 : ¬ (7 : Int32) < x2 := b3
  rcases rng 99 x3 (by omega) with h | ⟨c1, c2, c3⟩ | ⟨l, hl, E3, c1, c2, c3⟩
  · simp [a0, a1, b1, b2, b3, h, h0]
  · replace c2 : (100 : Int32) ≤ x3 := c2
    replace c3 : (99 : Int32) < x3 := c3
    simp [a0, a1, b1, b2, b3, c1, c2, c3, h0]
  replace c2 : ¬ (100 : Int32) ≤ x3 := c2
  replace c3 : ¬ (99 : Int32) < x3 := c3
  obtain ⟨w, hw, E1⟩ := inW (by omega) a0 a1
  rcases full hP (by omega) with ⟨s1, s2, s3, s4⟩ | ⟨s1, s2, s3⟩
  · replace s2 : nI P < 100 := s2
    replace s3 : ¬ nI P = 100 := s3
    have hcl : (nI P).toNatClampNeg = P := nI_clamp (by omega)
    have hx : x1 * 8 + x2 = nI (8 * w + s) := by rw [E1, E2, show (8 : Int32) = nI 8 from rfl, pk_mul, nI_add, Nat.mul_comm]
    have hcx : (nI (8 * w + s)).toNatClampNeg = 8 * w + s := nI_clamp (by omega)
    have hinx : vp_in (nI (8 * w + s)) 128 := vp_in_nI (by omega) (by omega)
    simp only [a0, a1, b1, b2, b3, c1, c2, c3, s2, s3, s4, one0, wp_X1_addPaper, hx, hcx, hinx, or_self, not_false_eq_true, not_true_eq_false, false_implies, true_implies, true_and, and_true, forall_eq, hcl, nI_1]
    rw [E1, E2, E3]
    exact hQ w s l _ _ _ _ _ _ _ _ s1 hw (paper_add hR' s1 (by omega) hs (Nat.le_refl d) (by omega))
  · subst s1
    replace s2 : ¬ nI 100 < 100 := s2
    replace s3 : nI 100 = 100 := s3
    simp only [a0, a1, b1, b2, b3, c1, c2, c3, s2, s3, one0, or_self, not_false_eq_true, not_true_eq_false, false_implies, true_implies, true_and, and_true]
    exact ⟨fun q => absurd q (by decide), fun _ => h0⟩
