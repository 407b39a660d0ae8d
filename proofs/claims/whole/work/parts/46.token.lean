/-! a token, as the class reads it -/
noncomputable def scS (p : Nat → Prop) (tb : Nat → Nat) (N : Nat) : Nat → Nat → Nat
  | 0, i => i
  | m + 1, i => match Classical.propDecidable (i < N ∧ p (tb i)) with
    | .isTrue _ => scS p tb N m (i + 1)
    | .isFalse _ => i
theorem scS_t {p : Nat → Prop} {tb : Nat → Nat} {N m i : Nat} (h : i < N ∧ p (tb i)) : scS p tb N (m + 1) i = scS p tb N m (i + 1) := by
  rw [scS]
  split
  · rfl
  · exact absurd h (by assumption)
theorem scS_f {p : Nat → Prop} {tb : Nat → Nat} {N m i : Nat} (h : ¬ (i < N ∧ p (tb i))) : scS p tb N (m + 1) i = i := by
  rw [scS]
  split
  · exact absurd (by assumption) h
  · rfl
theorem scS_ge {p : Nat → Prop} {tb : Nat → Nat} {N : Nat} : ∀ {m i : Nat}, i ≤ scS p tb N m i
  | 0, i => Nat.le_refl i
  | m + 1, i => by
    by_cases c : i < N ∧ p (tb i)
    · rw [scS_t c]; exact Nat.le_trans (by omega) (scS_ge (m := m) (i := i + 1))
    · rw [scS_f c]; exact Nat.le_refl i
theorem scS_le {p : Nat → Prop} {tb : Nat → Nat} {N : Nat} : ∀ {m i : Nat}, i + m = N → scS p tb N m i ≤ N
  | 0, i, h => by rw [scS]; omega
  | m + 1, i, h => by
    by_cases c : i < N ∧ p (tb i)
    · rw [scS_t c]; exact scS_le (by omega)
    · rw [scS_f c]; omega
theorem takeWord_c {L N s : Nat} {tb : Nat → Nat} {f g : Nat → Int32} {v : Int32} {K : Int32 → Int32 → Int32 → Prop} (hR : R_text L N tb f g) : ∀ m i : Nat, i + m = N → s ≤ i → K (nI (scS isL tb N m i)) (wkd (wF tb s (scS isL tb N m i) 6)) (wvl v (wF tb s (scS isL tb N m i) 6)) → wp_X3_takeWord_b0 K (nI N) (nI s) v f (nI L) (m + 1) (nI i) := by
  have hL := hR.1
  have hN := hR.2.1
  intro m
  induction m with
  | zero =>
    intro i hi hs hK
    rw [wp_X3_takeWord_b0]
    exact pk_le N i (fun _ => words_c hR hs (by omega) hK) (fun h => absurd h (by omega))
  | succ m ih =>
    intro i hi hs hK
    have hiN : i < N := by omega
    rw [wp_X3_takeWord_b0]
    refine pk_le N i (fun h => absurd h (by omega)) (fun _ => byte_c hR hiN (letter_c (hR.2.2 i hiN).1 (fun hd => ?_) (fun hd => ?_)))
    · rw [scS_t ⟨hiN, hd⟩] at hK
      refine ⟨fun q => absurd q (by decide), fun _ y e => ?_⟩
      rw [e, nI_1]
      exact ih (i + 1) (by omega) (by omega) hK
    · rw [scS_f (fun c => hd c.2)] at hK
      exact ⟨fun _ => words_c hR hs (by omega) hK, fun q => absurd rfl q⟩
theorem token_c {L N p : Nat} {tb : Nat → Nat} {f g : Nat → Int32} {kd v : Int32} {K : Int32 → Int32 → Int32 → Int32 → Prop} (hR : R_text L N tb f g) (hp : p ≤ N)
    (hEnd : p = N → K (nI p) 0 (nI p) v)
    (hWord : p < N → isL (tb p) → K (nI (scS isL tb N (N - p) p)) (wkd (wF tb p (scS isL tb N (N - p) p) 6)) (nI p) (wvl v (wF tb p (scS isL tb N (N - p) p) 6)))
    (hNum : p < N → isD (tb p) → K (nI (numS tb N (N - p) p 0).1) 2 (nI p) (nI (numS tb N (N - p) p 0).2))
    (hSemi : p < N → tb p = 59 → K (nI (p + 1)) 3 (nI p) v)
    (hBad : p < N → ¬ isL (tb p) → ¬ isD (tb p) → tb p ≠ 59 → K (nI (p + 1)) 4 (nI p) v) :
    wp_X3_nextToken_b41 K (nI N) kd v f (nI L) (nI p) := by
  have hL := hR.1
  have hN := hR.2.1
  unfold wp_X3_nextToken_b41
  refine pk_lt p N (fun h => ?_) (fun h => hEnd (by omega))
  have ht := (hR.2.2 p h).1
  refine byte_c hR h (letter_c ht (fun hl => ?_) (fun hl => ?_))
  · refine ⟨fun q => absurd q (by decide), fun _ => ?_⟩
    unfold wp_X3_takeWord
    exact ⟨N - p + 1, takeWord_c hR (N - p) p (by omega) (Nat.le_refl p) (hWord h hl)⟩
  · refine ⟨fun _ => digit_c ht (fun hd => ?_) (fun hd => ?_), fun q => absurd rfl q⟩
    · refine ⟨fun q => absurd q (by decide), fun _ => ?_⟩
      unfold wp_X3_takeNumber
      exact ⟨N - p + 1, num_c hR (N - p) p 0 (by omega) (by omega) (hNum h hd)⟩
    · refine ⟨fun _ => ?_, fun q => absurd rfl q⟩
      by_cases c : tb p = 59
      · refine ⟨fun q => absurd (by rw [c]; rfl) q, fun _ y e => ?_⟩
        rw [e, nI_1]
        exact hSemi h c
      · refine ⟨fun _ y e => ?_, fun q => absurd ((nI_eq (a := tb p) (b := 59) (by omega) (by omega)).mp q) c⟩
        rw [e, nI_1]
        exact hBad h hl hd c
theorem blanks_c {L N : Nat} {tb : Nat → Nat} {f g : Nat → Int32} {kd v : Int32} {K : Int32 → Int32 → Int32 → Int32 → Prop} (hR : R_text L N tb f g) : ∀ m i : Nat, i + m = N → wp_X3_nextToken_b41 K (nI N) kd v f (nI L) (nI (scS isB tb N m i)) → wp_X3_nextToken_b0 K (nI N) kd v f (nI L) (m + 1) (nI i) := by
  have hL := hR.1
  have hN := hR.2.1
  intro m
  induction m with
  | zero =>
    intro i hi hK
    rw [wp_X3_nextToken_b0]
    exact pk_le N i (fun _ => hK) (fun h => absurd h (by omega))
  | succ m ih =>
    intro i hi hK
    have hiN : i < N := by omega
    rw [wp_X3_nextToken_b0]
    refine pk_le N i (fun h => absurd h (by omega)) (fun _ => byte_c hR hiN (blank_c (hR.2.2 i hiN).1 (fun hd => ?_) (fun hd => ?_)))
    · rw [scS_t ⟨hiN, hd⟩] at hK
      refine ⟨fun q => absurd q (by decide), fun _ y e => ?_⟩
      rw [e, nI_1]
      exact ih (i + 1) (by omega) hK
    · rw [scS_f (fun c => hd c.2)] at hK
      exact ⟨fun _ => hK, fun q => absurd rfl q⟩
