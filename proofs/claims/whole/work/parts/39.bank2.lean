theorem bank_ref {d S T w fund known : Nat} {sW sD sH sT tF tV tU : Nat → Nat} {tS : Nat → Nat → Nat} {sh_worker sh_day sh_hours sh_told : Nat → Int32} {sh_size : Int32} {mm_hourWorker mm_hourDay mm_hourTold mm_hourMany : Nat → Int32} {mm_hours : Int32} {ru_from ru_voted ru_undone ru_says : Nat → Int32} {ru_texts : Int32} {mm_toldOn mm_fromDay mm_undoneOn mm_values : Nat → Int32} {mm_texts mm_thrown : Int32} {K : Int32 → Int32 → Prop}
    (hR : R_rules d T tF tV tU tS ru_from ru_voted ru_undone ru_says ru_texts mm_toldOn mm_fromDay mm_undoneOn mm_values mm_texts) (hH : R_sheet d S sW sD sH sT sh_worker sh_day sh_hours sh_told sh_size mm_hourWorker mm_hourDay mm_hourTold mm_hourMany mm_hours)
    (hd : d < 100) (hw : w < 16) (hf : fund < 3) (hkn : known < 100) (hK : K (nI (sumN (fun e => hrN sW sD sH sT w known e S * lawS T tF tV tU tS (5 + fund) e known) 100)) mm_thrown) :
    ∃ n42 : Nat, wp_X8_bank_b42 K mm_toldOn mm_fromDay mm_undoneOn mm_values mm_texts mm_hourWorker mm_hourDay mm_hourTold mm_hourMany mm_hours (nI w) (nI fund) (nI known) n42 mm_thrown 0 0 := by
  obtain ⟨hS, rfl, rfl, -, w1, -, d1, -, h1, -, t1, hrg⟩ := hH
  have inner : ∀ (k42 : Int32 → Int32 → Int32 → Prop) (e acc : Nat), e < 100 → k42 mm_thrown (nI (acc + hrN sW sD sH sT w known e S * lawS T tF tV tU tS (5 + fund) e known)) (nI (e + 1)) → ∀ m i : Nat, i + m = S →
      wp_X8_bank_b55 K k42 mm_toldOn mm_fromDay mm_undoneOn mm_values mm_texts mm_hourWorker mm_hourDay mm_hourTold mm_hourMany (nI S) (nI w) (nI fund) (nI known) (m + 1) mm_thrown (nI acc) (nI e) (nI (hrN sW sD sH sT w known e i)) (nI i) := by
    intro k42 e acc he hk m
    induction m with
    | zero =>
      intro i hi
      have hi : i = S := by omega
      subst hi
      have hle := hrN_le (sW := sW) (sD := sD) (sH := sH) (sT := sT) (w := w) (known := known) (e := e) (n := i) (fun k hk => (hrg k hk).2.2.1)
      rw [wp_X8_bank_b55]
      refine pk_le i i (fun _ => ?_) (fun h => absurd h (by omega))
      by_cases c : hrN sW sD sH sT w known e i = 0
      · rw [c] at hk ⊢
        refine ⟨fun q => absurd rfl q, fun _ y6 e6 y7 e7 => ?_⟩
        rw [e6, e7, nI_1, show nI acc + 0 = nI (acc + 0) from nI_add acc 0]
        rw [Nat.zero_mul] at hk
        exact hk
      · refine ⟨fun _ => ?_, fun q => absurd ((nI_eq (a := hrN sW sD sH sT w known e i) (b := 0) (by omega) (by omega)).mp q) c⟩
        rw [show (5 : Int32) + nI fund = nI (5 + fund) from nI_add 5 fund]
        refine lawOf_ok hR hd (by omega) he hkn (fun y4 e4 y5 e5 => ?_)
        rw [e4, e5, nI_1, pk_mul, nI_add]
        exact hk
    | succ m ih =>
      intro i hi
      have hin : vp_in (nI i) 150 := vp_in_nI (by omega) (by omega)
      have hcl : (nI i).toNatClampNeg = i := nI_clamp (by omega)
      obtain ⟨g1, g2, g3, g4⟩ := hrg i (by omega)
      have next : ∀ v, hrN sW sD sH sT w known e (i + 1) = v → ∀ y : Int32, y = nI i + 1 → wp_X8_bank_b55 K k42 mm_toldOn mm_fromDay mm_undoneOn mm_values mm_texts mm_hourWorker mm_hourDay mm_hourTold mm_hourMany (nI S) (nI w) (nI fund) (nI known) (m + 1) mm_thrown (nI acc) (nI e) (nI v) y := by
        intro v hv y hy
        rw [hy, nI_1, ← hv]
        exact ih (i + 1) (by omega)
      rw [wp_X8_bank_b55]
      refine pk_le S i (fun h => absurd h (by omega)) (fun _ => ⟨hin, ?_⟩)
      rw [hcl, w1 i (by omega), d1 i (by omega), t1 i (by omega), h1 i (by omega)]
      by_cases a : sW i = w
      · refine ⟨fun q => absurd (by rw [a]) q, fun _ => ⟨hin, ?_⟩⟩
        by_cases b : sD i = e
        · refine ⟨fun q => absurd (by rw [b]) q, fun _ => ⟨hin, ?_⟩⟩
          refine pk_lt known (sT i) (fun g => next _ (by rw [hrN, if_neg (fun c => by omega)])) (fun g => ⟨hin, fun y18 e18 => ?_⟩)
          rw [e18]
          exact next (sH i) (by rw [hrN, if_pos ⟨a, b, g⟩])
        · refine ⟨fun _ => next _ (by rw [hrN, if_neg (fun c => b c.2.1)]), fun q => absurd ((nI_eq (by omega) (by omega)).mp q) b⟩
      · refine ⟨fun _ => next _ (by rw [hrN, if_neg (fun c => a c.1)]), fun q => absurd ((nI_eq (by omega) (by omega)).mp q) a⟩
  have outer : ∀ m e : Nat, e + m = 100 → wp_X8_bank_b42 K mm_toldOn mm_fromDay mm_undoneOn mm_values mm_texts mm_hourWorker mm_hourDay mm_hourTold mm_hourMany (nI S) (nI w) (nI fund) (nI known) (m + 1) mm_thrown (nI (sumN (fun e => hrN sW sD sH sT w known e S * lawS T tF tV tU tS (5 + fund) e known) e)) (nI e) := by
    intro m
    induction m with
    | zero =>
      intro e he
      have he : e = 100 := by omega
      subst he
      rw [wp_X8_bank_b42]
      exact pk_le 100 100 (fun _ => hK) (fun h => absurd h (by omega))
    | succ m ih =>
      intro e he
      rw [wp_X8_bank_b42]
      refine pk_le 100 e (fun h => absurd h (by omega)) (fun _ => ⟨S + 1, ?_⟩)
      refine inner _ e _ (by omega) ?_ S 0 (by omega)
      exact ih (e + 1) (by omega)
  exact ⟨101, outer 100 0 (by omega)⟩
theorem p_bank {d W S T : Nat} {sW sD sH sT tF tV tU : Nat → Nat} {tS : Nat → Nat → Nat} {sh_worker sh_day sh_hours sh_told sh_dayTaken : Nat → Int32} {sh_size cr_size : Int32} {mm_hourWorker mm_hourDay mm_hourTold mm_hourMany : Nat → Int32} {mm_hours : Int32} {ru_from ru_voted ru_undone ru_says : Nat → Int32} {ru_texts : Int32} {mm_toldOn mm_fromDay mm_undoneOn mm_values : Nat → Int32} {mm_texts mm_workers hh_today mm_today mm_thrown x1 x2 x3 : Int32} {Q : (Nat → Int32) → Int32 → Prop}
    (hR : R_rules d T tF tV tU tS ru_from ru_voted ru_undone ru_says ru_texts mm_toldOn mm_fromDay mm_undoneOn mm_values mm_texts) (hH : R_sheet d S sW sD sH sT sh_worker sh_day sh_hours sh_told sh_size mm_hourWorker mm_hourDay mm_hourTold mm_hourMany mm_hours)
    (hW : W ≤ 16) (w1 : cr_size = nI W) (w2 : mm_workers = nI W) (hd : d < 100) (e1 : hh_today = nI d) (e2 : mm_today = nI d) (hQ : ∀ g, Q g 0) :
    wp_X7_bank hh_today sh_worker sh_day sh_hours sh_told sh_dayTaken sh_size ru_from ru_voted ru_undone ru_says ru_texts cr_size x1 x2 x3 (fun r g => wp_X8_bank mm_thrown mm_today mm_toldOn mm_fromDay mm_undoneOn mm_values mm_texts mm_workers mm_hourWorker mm_hourDay mm_hourTold mm_hourMany mm_hours x1 x2 x3 (fun q t => r = q ∧ Q g t)) := by
  subst w1 w2 e1 e2
  unfold wp_X7_bank wp_X8_bank
  simp only [isBelow_iff, isWorker_iff, hasCome_iff]
  by_cases a0 : x1 < 0
  · simp [a0, hQ]
  by_cases a1 : nI W ≤ x1
  · simp [a0, a1, hQ]
  obtain ⟨w, hw, E1⟩ := inW (by omega) a0 a1
  rcases rng 2 x2 (by omega) with h | ⟨b1, b2, b3⟩ | ⟨f, hf, E2, b1, b2, b3⟩
  · simp [a0, a1, h, hQ]
  · replace b2 : (3 : Int32) ≤ x2 := b2
    replace b3 : (2 : Int32) < x2 := b3
    simp [a0, a1, b1, b2, b3, hQ]
  replace b2 : ¬ (3 : Int32) ≤ x2 := b2
  replace b3 : ¬ (2 : Int32) < x2 := b3
  rcases come d x3 (by omega) with k | ⟨k1, k2, k3⟩ | ⟨kn, hkn, E3, k1, k2, k3⟩
  · simp [a0, a1, b1, b2, b3, k, hQ]
  · simp [a0, a1, b1, b2, b3, k1, k2, k3, hQ]
  simp only [a0, a1, b1, b2, b3, k1, k2, k3, one0, or_self, not_false_eq_true, not_true_eq_false, false_implies, true_implies, true_and, and_true]
  subst E1 E2 E3
  exact sum_cls hR hH hd (by omega) (by omega) (by omega) (fun g => bank_ref hR hH hd (by omega) (by omega) (by omega) ⟨rfl, hQ g⟩)
