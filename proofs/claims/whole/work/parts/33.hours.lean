/-! hours, refuse -/
theorem inW {W : Nat} {x : Int32} (hW : W < 2147483648) (h0 : ¬ x < 0) (h1 : ¬ nI W ≤ x) : ∃ j, j < W ∧ x = nI j := by
  rcases pk_ix x (n := W) (by omega) with h | h | h
  · exact absurd h h0
  · exact absurd h h1
  · exact h
theorem full {S N : Nat} (hS : S ≤ N) (hN : N < 2147483648) : (S < N ∧ nI S < nI N ∧ ¬ nI S = nI N ∧ vp_in (nI S) N) ∨ (S = N ∧ ¬ nI S < nI N ∧ nI S = nI N) := by
  by_cases h : S < N
  · exact Or.inl ⟨h, nI_lt h (by omega), fun q => by have := (nI_eq (by omega) (by omega)).mp q; omega, vp_in_nI h (by omega)⟩
  · have e : S = N := by omega
    subst e
    exact Or.inr ⟨rfl, nI_nlt (by omega) (by omega), rfl⟩
def R_sheet (d S : Nat) (sW sD sH sT : Nat → Nat) (sh_worker sh_day sh_hours sh_told : Nat → Int32) (sh_size : Int32) (mm_hourWorker mm_hourDay mm_hourTold mm_hourMany : Nat → Int32) (mm_hours : Int32) : Prop :=
  S ≤ 150 ∧ sh_size = nI S ∧ mm_hours = nI S ∧ rw_ S sh_worker sW ∧ rw_ S mm_hourWorker sW ∧ rw_ S sh_day sD ∧ rw_ S mm_hourDay sD ∧ rw_ S sh_hours sH ∧ rw_ S mm_hourMany sH ∧ rw_ S sh_told sT ∧ rw_ S mm_hourTold sT ∧ ∀ k, k < S → sW k < 16 ∧ sD k ≤ d ∧ sH k ≤ 24 ∧ sT k ≤ d
theorem p_hours {d W S : Nat} {sW sD sH sT : Nat → Nat} {sh_worker sh_day sh_hours sh_told : Nat → Int32} {sh_size cr_size : Int32} {mm_hourWorker mm_hourDay mm_hourTold mm_hourMany : Nat → Int32} {mm_hours mm_workers hh_today mm_today mm_thrown x1 x2 x3 : Int32}
    {P : Int32 → (Nat → Int32) → (Nat → Int32) → (Nat → Int32) → (Nat → Int32) → Int32 → Int32 → (Nat → Int32) → (Nat → Int32) → (Nat → Int32) → (Nat → Int32) → Int32 → Prop}
    (hR : R_sheet d S sW sD sH sT sh_worker sh_day sh_hours sh_told sh_size mm_hourWorker mm_hourDay mm_hourTold mm_hourMany mm_hours) (hW : W ≤ 16) (w1 : cr_size = nI W) (w2 : mm_workers = nI W) (hd : d < 100) (e1 : hh_today = nI d) (e2 : mm_today = nI d)
    (h0 : P 0 sh_worker sh_day sh_hours sh_told sh_size 0 mm_hourWorker mm_hourDay mm_hourTold mm_hourMany mm_hours)
    (hP : ∀ (a b c : Nat) (f1 f2 f3 f4 g1 g2 g3 g4 : Nat → Int32), S < 150 → R_sheet d (S + 1) (ap sW S a) (ap sD S b) (ap sH S c) (ap sT S d) f1 f2 f3 f4 (nI (S + 1)) g1 g2 g3 g4 (nI (S + 1)) → P 1 f1 f2 f3 f4 (nI (S + 1)) 0 g1 g2 g3 g4 (nI (S + 1))) :
    wp_X7_hours hh_today sh_worker sh_day sh_hours sh_told sh_size cr_size x1 x2 x3 (fun r f1 f2 f3 f4 n => wp_X8_hours mm_thrown mm_today mm_workers mm_hourWorker mm_hourDay mm_hourTold mm_hourMany mm_hours x1 x2 x3 (fun q t g1 g2 g3 g4 k => r = q ∧ P r f1 f2 f3 f4 n t g1 g2 g3 g4 k)) := by
  obtain ⟨hS, rfl, rfl, r1, r2, r3, r4, r5, r6, r7, r8, hb⟩ := hR
  subst w1 w2 e1 e2
  unfold wp_X7_hours wp_X8_hours
  simp only [isBelow_iff, hasCome_iff, isWorker_iff]
  by_cases a0 : x1 < 0
  · simp [a0, h0]
  by_cases a1 : nI W ≤ x1
  · simp [a0, a1, h0]
  by_cases b0 : x2 < 0
  · simp [a0, a1, b0, h0]
  by_cases b1 : nI d < x2
  · simp [a0, a1, b0, b1, h0]
  by_cases c0 : x3 < 0
  · simp [a0, a1, b0, b1, c0, h0]
  by_cases c1 : 24 < x3
  · simp [a0, a1, b0, b1, c0, c1, h0]
  rcases full hS (by omega) with ⟨s1, s2, s3, s4⟩ | ⟨s1, s2, s3⟩
  · replace s2 : nI S < 150 := s2
    replace s3 : ¬ nI S = 150 := s3
    obtain ⟨ja, ha, rfl⟩ := inW (by omega) a0 a1
    obtain ⟨jb, hb1, rfl⟩ : ∃ j, j ≤ d ∧ x2 = nI j := by
      rcases come d x2 (by omega) with h | h | ⟨j, h, e, -⟩
      · exact absurd h b0
      · exact absurd h.2.1 b1
      · exact ⟨j, h, e⟩
    obtain ⟨jc, hc1, rfl⟩ : ∃ j, j < 25 ∧ x3 = nI j := by
      rcases rng 24 x3 (by omega) with h | h | ⟨j, h, e, -⟩
      · exact absurd h c0
      · exact absurd h.2.2 c1
      · exact ⟨j, h, e⟩
    have hcl : (nI S).toNatClampNeg = S := nI_clamp (by omega)
    simp only [a0, a1, b0, b1, c0, c1, s2, s3, s4, one0, wp_X5_add, or_self, not_false_eq_true, not_true_eq_false, false_implies, true_implies, true_and, and_true, forall_eq, hcl, nI_1]
    refine hP ja jb jc _ _ _ _ _ _ _ _ s1 ⟨by omega, rfl, rfl, rw_ap r1, rw_ap r2, rw_ap r3, rw_ap r4, rw_ap r5, rw_ap r6, rw_ap r7, rw_ap r8, fun k hk => ?_⟩
    by_cases e : k = S
    · subst e; rw [ap_s, ap_s, ap_s, ap_s]; omega
    · rw [ap_n e, ap_n e, ap_n e, ap_n e]; exact hb k (by omega)
  · subst s1
    replace s2 : ¬ nI 150 < 150 := s2
    replace s3 : nI 150 = 150 := s3
    simp only [a0, a1, b0, b1, c0, c1, s2, s3, one0, or_self, not_false_eq_true, not_true_eq_false, false_implies, true_implies, true_and, and_true]
    exact ⟨fun q => absurd q (by decide), fun _ => h0⟩
/-- calls: what both sides hold of each -/
theorem p_refuse {d W C : Nat} {cY : Nat → Nat} {ca_day ca_refusers mm_callDay mm_refuses : Nat → Int32} {ca_size cr_size mm_calls mm_workers hh_today mm_today mm_thrown x1 x2 : Int32} {P : Int32 → (Nat → Int32) → Int32 → (Nat → Int32) → Prop}
    (hC : C ≤ 60) (c1 : ca_size = nI C) (c2 : mm_calls = nI C) (w1 : cr_size = nI W) (w2 : mm_workers = nI W) (hd : d < 100) (e1 : hh_today = nI d) (e2 : mm_today = nI d) (y1 : rw_ C ca_day cY) (y2 : rw_ C mm_callDay cY) (hr : ∀ c, c < C → ca_refusers c = mm_refuses c)
    (h0 : P 0 ca_refusers 0 mm_refuses)
    (hP : ∀ (c : Nat) (v : Int32), c < C → cY c = d → P 1 (upd ca_refusers c v) 0 (upd mm_refuses c v)) (hY : ∀ c, c < C → cY c < 100) :
    wp_X7_refuse hh_today cr_size ca_day ca_refusers ca_size x1 x2 (fun r u => wp_X8_refuse mm_thrown mm_today mm_workers mm_callDay mm_refuses mm_calls x1 x2 (fun q t v => r = q ∧ P r u t v)) := by
  subst c1 c2 w1 w2 e1 e2
  unfold wp_X7_refuse wp_X8_refuse
  simp only [isBelow_iff, isWorker_iff]
  by_cases a0 : x1 < 0
  · simp [a0, h0]
  by_cases a1 : nI C ≤ x1
  · simp [a0, a1, h0]
  obtain ⟨j, hj, rfl⟩ := inW (by omega) a0 a1
  have hcl : (nI j).toNatClampNeg = j := nI_clamp (by omega)
  have hin : vp_in (nI j) 60 := vp_in_nI (by omega) (by omega)
  simp only [a0, a1, one0, hcl, hin, y1 j hj, y2 j hj, hr j hj, or_self, not_false_eq_true, not_true_eq_false, false_implies, true_implies, true_and, and_true, wp_X0_addRefusal, wp_X0_refuses]
  by_cases q0 : nI (cY j) = nI d
  · have hyd : cY j = d := (nI_eq (by have := hY j hj; omega) (by omega)).mp q0
    by_cases b0 : x2 < 0
    · simp [q0, b0, h0]
    by_cases b1 : nI W ≤ x2
    · simp [q0, b0, b1, h0]
    by_cases z : (mm_refuses j >>> (x2 &&& 31)) &&& 1 = 1
    · simp [q0, b0, b1, z, h0]
    · simp [q0, b0, b1, z]
      exact hP j _ hj hyd
  · simp [q0, h0]
