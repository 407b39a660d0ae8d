/-! a token, as the reference reads it -/
theorem letters_r {L N s : Nat} {tb : Nat → Nat} {f g : Nat → Int32} {K : Int32 → Int32 → Int32 → Int32 → Prop} (hR : R_text L N tb f g) : ∀ m i : Nat, i + m = N → s ≤ i → (∀ k, wF tb s (scS isL tb N m i) 6 = some k → k < 6 → K (nI (scS isL tb N m i)) (nI s) 0 (nI k)) → (wF tb s (scS isL tb N m i) 6 = none → K (nI (scS isL tb N m i)) (nI s) 4 (-1)) → wp_X8_next_b64 K g (nI N) (m + 1) (nI i) (nI s) := by
  have hL := hR.1
  have hN := hR.2.1
  have fin : ∀ e, s ≤ e → e ≤ N → (∀ k, wF tb s e 6 = some k → k < 6 → K (nI e) (nI s) 0 (nI k)) → (wF tb s e 6 = none → K (nI e) (nI s) 4 (-1)) → wp_X8_wordOf g (nI e) (nI s) (fun r11 => ((¬ r11 = (-1) → K (nI e) (nI s) 0 r11) ∧ (r11 = (-1) → K (nI e) (nI s) 4 r11))) := by
    intro e h1 h2 h3 h4
    refine wordOf_ok hR h1 h2 (fun k hk h6 => ⟨fun _ => h3 k hk h6, fun q => absurd q (ne_m1 (by omega))⟩) (fun hk => ⟨fun q => absurd rfl q, fun _ => h4 hk⟩)
  intro m
  induction m with
  | zero =>
    intro i hi hs h3 h4
    rw [wp_X8_next_b64]
    exact byte_r hR (by omega) (fun h => by omega) (fun _ => small_m1 ⟨fun _ => fin i hs (by omega) h3 h4, fun q => absurd rfl q⟩)
  | succ m ih =>
    intro i hi hs h3 h4
    have hiN : i < N := by omega
    rw [wp_X8_next_b64]
    refine byte_r hR (by omega) (fun _ => small_r (hR.2.2 i hiN).1 (fun hd => ?_) (fun hd => ?_)) (fun h => by omega)
    · rw [scS_t ⟨hiN, hd⟩] at h3 h4
      refine ⟨fun q => absurd q (by decide), fun _ y e => ?_⟩
      rw [e, nI_1]
      exact ih (i + 1) (by omega) (by omega) h3 h4
    · rw [scS_f (fun c => hd c.2)] at h3 h4
      exact ⟨fun _ => fin i hs (by omega) h3 h4, fun q => absurd rfl q⟩
theorem next_r {L N : Nat} {tb : Nat → Nat} {f g : Nat → Int32} {v : Int32} {K : Int32 → Int32 → Int32 → Int32 → Prop} (hR : R_text L N tb f g) : ∀ m i p : Nat, i + m = N → p = scS isB tb N m i →
    (p = N → K (nI p) (nI p) 3 v) →
    (p < N → isL (tb p) → ∀ k, wF tb p (scS isL tb N (N - p) p) 6 = some k → k < 6 → K (nI (scS isL tb N (N - p) p)) (nI p) 0 (nI k)) →
    (p < N → isL (tb p) → wF tb p (scS isL tb N (N - p) p) 6 = none → K (nI (scS isL tb N (N - p) p)) (nI p) 4 (-1)) →
    (p < N → isD (tb p) → K (nI (numS tb N (N - p) p 0).1) (nI p) 1 (nI (numS tb N (N - p) p 0).2)) →
    (p < N → tb p = 59 → K (nI (p + 1)) (nI p) 2 v) →
    (p < N → ¬ isL (tb p) → ¬ isD (tb p) → tb p ≠ 59 → K (nI (p + 1)) (nI p) 4 v) → wp_X8_next_b0 K g (nI N) v (m + 1) (nI i) := by
  have hL := hR.1
  have hN := hR.2.1
  intro m
  induction m with
  | zero =>
    intro i p hi hp hEnd _ _ _ _ _
    rw [scS] at hp
    subst hp
    have hpN : p = N := by omega
    rw [wp_X8_next_b0]
    refine byte_r hR (by omega) (fun h => by omega) (fun _ => br_f (by decide) ?_)
    refine byte_r hR (by omega) (fun h => by omega) (fun _ => ⟨fun _ => ?_, fun q => absurd q (by decide)⟩)
    exact byte_r hR (by omega) (fun h => by omega) (fun _ => ⟨fun q => absurd rfl q, fun _ => hEnd hpN⟩)
  | succ m ih =>
    intro i p hi hp hEnd hW1 hW0 hNum hSemi hBad
    have hiN : i < N := by omega
    have ht := (hR.2.2 i hiN).1
    rw [wp_X8_next_b0]
    have go : isB (tb i) → wp_X8_next_b18 K (fun mm_at => wp_X8_next_b0 K g (nI N) v (m + 1) mm_at) (nI i) := by
      intro hb
      rw [wp_X8_next_b18]
      intro y e
      rw [e, nI_1]
      rw [scS_t ⟨hiN, hb⟩] at hp
      exact ih (i + 1) p (by omega) hp hEnd hW1 hW0 hNum hSemi hBad
    refine byte_r hR (by omega) (fun _ => ?_) (fun h => by omega)
    refine pk_eq (tb i) 10 (fun q => go (Or.inl q)) (fun q10 => ?_)
    refine byte_r hR (by omega) (fun _ => ?_) (fun h => by omega)
    by_cases q32 : tb i = 32
    · exact ⟨fun q => absurd (by rw [q32]; rfl) q, fun _ => go (Or.inr q32)⟩
    · have hnb : ¬ isB (tb i) := fun c => by rcases c with c | c <;> omega
      rw [scS_f (fun c => hnb c.2)] at hp
      subst hp
      refine ⟨fun _ => ?_, fun q => absurd ((nI_eq (a := tb p) (b := 32) (by omega) (by omega)).mp q) q32⟩
      refine byte_r hR (by omega) (fun _ => ?_) (fun h => by omega)
      refine ⟨fun _ => ?_, fun q => absurd q (ne_m1 (by omega))⟩
      refine small_r ht (fun hl => ?_) (fun hl => ?_)
      · refine ⟨fun q => absurd q (by decide), fun _ => ⟨N - p + 1, ?_⟩⟩
        exact letters_r hR (N - p) p (by omega) (Nat.le_refl p) (hW1 hiN hl) (hW0 hiN hl)
      · refine ⟨fun _ => ?_, fun q => absurd rfl q⟩
        refine digit_r ht (fun hd => ?_) (fun hd => ?_)
        · refine ⟨fun q => absurd q (by decide), fun _ => ⟨N - p + 1, ?_⟩⟩
          exact num_r hR (N - p) p 0 (by omega) (by omega) (hNum hiN hd)
        · refine ⟨fun _ y24 e24 => ?_, fun q => absurd rfl q⟩
          rw [e24, nI_1]
          by_cases c : tb p = 59
          · exact ⟨fun q => absurd (by rw [c]; rfl) q, fun _ => hSemi hiN c⟩
          · exact ⟨fun _ => hBad hiN hl hd c, fun q => absurd ((nI_eq (a := tb p) (b := 59) (by omega) (by omega)).mp q) c⟩
