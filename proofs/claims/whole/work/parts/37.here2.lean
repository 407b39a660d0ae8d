theorem isHere_ref {h w day mi : Nat} {hW hD hF hT : Nat → Nat} {cr_minutesHere : Nat → Int32} {cr_heres : Int32} {mm_hereWorker mm_hereDay mm_hereFrom mm_hereTo : Nat → Int32} {mm_heres : Int32} {K : Int32 → Prop}
    (hR : R_here h hW hD hF hT cr_minutesHere cr_heres mm_hereWorker mm_hereDay mm_hereFrom mm_hereTo mm_heres) (hw : w < 16) (hday : day < 100) (hmi : mi < 2000000) (hK : K (nI (hereN (fun k => 100 * hW k + hD k) hF hT (100 * w + day) mi h))) :
    wp_X8_isHere mm_hereWorker mm_hereDay mm_hereFrom mm_hereTo mm_heres (nI w) (nI day) (nI mi) K := by
  obtain ⟨hh, rfl, rfl, w1, d1, f1, t1, -, hrg⟩ := hR
  have loop : ∀ m i : Nat, i + m = h → wp_X8_isHere_b6 K mm_hereWorker mm_hereDay mm_hereFrom mm_hereTo (nI h) (nI w) (nI day) (nI mi) (m + 1) (nI (hereN (fun k => 100 * hW k + hD k) hF hT (100 * w + day) mi i)) (nI i) := by
    intro m
    induction m with
    | zero =>
      intro i hi
      have hi : i = h := by omega
      subst hi
      rw [wp_X8_isHere_b6]
      refine pk_le i i (fun _ => ⟨?_, hK⟩) (fun h => absurd h (by omega))
      rcases hereN_01 (hK := fun k => 100 * hW k + hD k) (hF := hF) (hT := hT) (q := 100 * w + day) (mi := mi) i with h | h
      · rw [h]; exact Or.inl rfl
      · rw [h]; exact Or.inr rfl
    | succ m ih =>
      intro i hi
      have hin : vp_in (nI i) 200 := vp_in_nI (by omega) (by omega)
      have hcl : (nI i).toNatClampNeg = i := nI_clamp (by omega)
      obtain ⟨g1, g2, g3, g4⟩ := hrg i (by omega)
      have next : ∀ v, hereN (fun k => 100 * hW k + hD k) hF hT (100 * w + day) mi (i + 1) = v → ∀ y : Int32, y = nI i + 1 → wp_X8_isHere_b6 K mm_hereWorker mm_hereDay mm_hereFrom mm_hereTo (nI h) (nI w) (nI day) (nI mi) (m + 1) (nI v) y := by
        intro v hv y hy
        rw [hy, nI_1, ← hv]
        exact ih (i + 1) (by omega)
      rw [wp_X8_isHere_b6]
      refine pk_le h i (fun h => absurd h (by omega)) (fun _ => ⟨hin, ?_⟩)
      rw [hcl, w1 i (by omega), d1 i (by omega), f1 i (by omega), t1 i (by omega)]
      by_cases a : hW i = w
      · refine ⟨fun q => absurd (by rw [a]) q, fun _ => ⟨hin, ?_⟩⟩
        by_cases b : hD i = day
        · refine ⟨fun q => absurd (by rw [b]) q, fun _ => ⟨hin, ?_⟩⟩
          refine pk_lt mi (hF i) (fun g => next 0 (by rw [hereN, if_pos (by rw [a, b]), if_neg (by omega)])) (fun g => ⟨hin, ?_⟩)
          refine pk_le (hT i) mi (fun f => next 0 (by rw [hereN, if_pos (by rw [a, b]), if_neg (by omega)])) (fun f => next 1 (by rw [hereN, if_pos (by rw [a, b]), if_pos ⟨g, f⟩]))
        · refine ⟨fun _ => next _ (by rw [hereN, if_neg (fun c => by omega)]), fun q => absurd ((nI_eq (by omega) (by omega)).mp q) b⟩
      · refine ⟨fun _ => next _ (by rw [hereN, if_neg (fun c => by omega)]), fun q => absurd ((nI_eq (by omega) (by omega)).mp q) a⟩
  exact ⟨h + 1, loop h 0 (by omega)⟩
theorem p_here {d W h : Nat} {hW hD hF hT : Nat → Nat} {cr_minutesHere : Nat → Int32} {cr_heres cr_size : Int32} {mm_hereWorker mm_hereDay mm_hereFrom mm_hereTo : Nat → Int32} {mm_heres mm_workers hh_today mm_today mm_thrown x1 x2 x3 x4 : Int32}
    {Q : Int32 → (Nat → Int32) → Int32 → Int32 → (Nat → Int32) → (Nat → Int32) → (Nat → Int32) → (Nat → Int32) → Int32 → Prop}
    (hR : R_here h hW hD hF hT cr_minutesHere cr_heres mm_hereWorker mm_hereDay mm_hereFrom mm_hereTo mm_heres) (hW16 : W ≤ 16) (w1 : cr_size = nI W) (w2 : mm_workers = nI W) (hd : d < 100) (e1 : hh_today = nI d) (e2 : mm_today = nI d)
    (h0 : Q 0 cr_minutesHere cr_heres 0 mm_hereWorker mm_hereDay mm_hereFrom mm_hereTo mm_heres)
    (hQ : ∀ (w e f t : Nat) (f1 g1 g2 g3 g4 : Nat → Int32), h < 200 → w < W → d ≤ e → R_here (h + 1) (ap hW h w) (ap hD h e) (ap hF h f) (ap hT h t) f1 (nI (h + 1)) g1 g2 g3 g4 (nI (h + 1)) → Q 1 f1 (nI (h + 1)) 0 g1 g2 g3 g4 (nI (h + 1))) :
    wp_X7_here hh_today cr_size cr_minutesHere cr_heres x1 x2 x3 x4 (fun r f1 n => wp_X8_here mm_thrown mm_today mm_workers mm_hereWorker mm_hereDay mm_hereFrom mm_hereTo mm_heres x1 x2 x3 x4 (fun q t g1 g2 g3 g4 k => r = q ∧ Q r f1 n t g1 g2 g3 g4 k)) := by
  obtain ⟨hh, rfl, rfl, r1, r2, r3, r4, hE, hrg⟩ := hR
  subst w1 w2 e1 e2
  unfold wp_X7_here wp_X8_here
  simp only [isBelow_iff, isWorker_iff]
  by_cases a0 : x1 < 0
  · simp [a0, h0]
  by_cases a1 : nI W ≤ x1
  · simp [a0, a1, h0]
  by_cases b0 : x2 < nI d
  · simp [a0, a1, b0, h0]
  have b1 : ¬ x2 < 0 := fun q => b0 (by rw [i_lt] at q ⊢; rw [i_lit (show d < 2147483648 by omega)]; have : (0 : Int32).toInt = 0 := by decide
                                        omega)
  rcases rng 99 x2 (by omega) with g | ⟨-, g2, g3⟩ | ⟨e, he, E2, -, g2, g3⟩
  · exact absurd g b1
  · replace g2 : (100 : Int32) ≤ x2 := g2
    replace g3 : (99 : Int32) < x2 := g3
    simp [a0, a1, b0, g2, g3, h0]
  replace g2 : ¬ (100 : Int32) ≤ x2 := g2
  replace g3 : ¬ (99 : Int32) < x2 := g3
  by_cases c0 : x3 < 0
  · simp [a0, a1, b0, b1, g2, g3, c0, h0]
  by_cases c1 : x4 ≤ x3
  · by_cases c2 : 600 < x4
    · simp [a0, a1, b0, b1, g2, g3, c0, c1, c2, h0]
    · simp [a0, a1, b0, b1, g2, g3, c0, c1, c2, h0]
  by_cases c2 : 600 < x4
  · simp [a0, a1, b0, b1, g2, g3, c0, c1, c2, h0]
  rcases full hh (by omega) with ⟨s1, s2, s3, s4⟩ | ⟨s1, s2, s3⟩
  · replace s2 : nI h < 200 := s2
    replace s3 : ¬ nI h = 200 := s3
    obtain ⟨w, hw, E1⟩ := inW (by omega) a0 a1
    have h4 : ¬ x4 < 0 := fun q => c1 (by rw [i_lt] at q; rw [i_lt] at c0; rw [i_le]; have : (0 : Int32).toInt = 0 := by decide
                                          omega)
    obtain ⟨t, ht, E4⟩ : ∃ j, j < 601 ∧ x4 = nI j := by
      rcases rng 600 x4 (by omega) with q | q | ⟨j, q, e, -⟩
      · exact absurd q h4
      · exact absurd q.2.2 c2
      · exact ⟨j, q, e⟩
    obtain ⟨f, hf, E3⟩ : ∃ j, j < t ∧ x3 = nI j := by
      obtain ⟨j, hj, ej⟩ := nI_of c0
      refine ⟨j, ?_, ej⟩
      rw [ej, E4, nI_leI (by omega) (by omega)] at c1
      omega
    have hde : d ≤ e := by
      rw [E2, nI_ltI (by omega) (by omega)] at b0
      omega
    have hcl : (nI h).toNatClampNeg = h := nI_clamp (by omega)
    have hx : x1 * 100 + x2 = nI (100 * w + e) := by rw [E1, E2, show (100 : Int32) = nI 100 from rfl, pk_mul, nI_add, Nat.mul_comm]
    have hy : x3 * 601 + x4 = nI (f * 601 + t) := by rw [E3, E4, show (601 : Int32) = nI 601 from rfl, pk_mul, nI_add]
    have hcx : (nI (100 * w + e)).toNatClampNeg = 100 * w + e := nI_clamp (by omega)
    have hinx : vp_in (nI (100 * w + e)) 1600 := vp_in_nI (by omega) (by omega)
    simp only [a0, a1, b0, b1, g2, g3, c0, c1, c2, s2, s3, s4, one0, wp_X1_addHere, hx, hy, hcx, hinx, or_self, not_false_eq_true, not_true_eq_false, false_implies, true_implies, true_and, and_true, forall_eq, hcl, nI_1]
    rw [E1, E2, E3, E4]
    refine hQ w e f t _ _ _ _ _ s1 hw hde ⟨by omega, rfl, rfl, rw_ap r1, rw_ap r2, rw_ap r3, rw_ap r4, fun q hq => ?_, fun k hk => ?_⟩
    · rw [hereE, ap_s, ap_s, ap_s, ap_s]
      by_cases z : q = 100 * w + e
      · subst z; rw [if_pos rfl]; exact pk_us
      · rw [if_neg (fun y => z y.symm), pk_un z, hE q hq, hereE_congr (fun j hj => ⟨?_, ?_, ?_⟩)]
        · show 100 * hW j + hD j = 100 * ap hW h w j + ap hD h e j
          rw [ap_n (by omega), ap_n (by omega)]
        · rw [ap_n (by omega)]
        · rw [ap_n (by omega)]
    · by_cases z : k = h
      · subst z; rw [ap_s, ap_s, ap_s, ap_s]; omega
      · rw [ap_n z, ap_n z, ap_n z, ap_n z]; exact hrg k (by omega)
  · subst s1
    replace s2 : ¬ nI 200 < 200 := s2
    replace s3 : nI 200 = 200 := s3
    simp only [a0, a1, b0, b1, g2, g3, c0, c1, c2, s2, s3, one0, or_self, not_false_eq_true, not_true_eq_false, false_implies, true_implies, true_and, and_true]
    exact ⟨fun q => absurd q (by decide), fun _ => h0⟩
