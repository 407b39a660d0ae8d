/-! words, as the reference finds them -/
def offW (k : Nat) : Nat := [0, 6, 13, 20, 27, 32, 37].getD k 0
theorem off_ch : ∀ k, k < 6 → ∀ i, i < mk_len.getD k 0 → mk_ch 6 (offW k + i) = nI (chN k i) ∧ chN k i ≠ 32 ∧ chN k i < 128 := by decide +kernel
theorem off_sp : ∀ k, k < 6 → mk_ch 6 (offW k + mk_len.getD k 0) = 32 ∧ offW (k + 1) = offW k + mk_len.getD k 0 + 1 ∧ offW (k + 1) ≤ 37 ∧ mk_len.getD k 0 ≤ 6 := by decide +kernel
theorem len6 : mk_len.getD 6 0 = 37 := rfl
theorem wd_ne : ∀ k, k < 6 → ∀ j, j < 6 → k ≠ j → (mk_len.getD k 0 ≠ mk_len.getD j 0 ∨ ∃ i, i < mk_len.getD k 0 ∧ chN k i ≠ chN j i) := by
  have h : ∀ k, k < 6 → ∀ j, j < 6 → k ≠ j → (mk_len.getD k 0 ≠ mk_len.getD j 0 ∨ chN k 0 ≠ chN j 0) := by decide +kernel
  have hl : ∀ k, k < 6 → 0 < mk_len.getD k 0 := by decide +kernel
  intro k hk j hj hne
  rcases h k hk j hj hne with q | q
  · exact Or.inl q
  · exact Or.inr ⟨0, hl k hk, q⟩
theorem wd_uni {tb : Nat → Nat} {s e k j : Nat} (hk : k < 6) (hj : j < 6) (h1 : wd tb s e k) (h2 : wd tb s e j) : k = j := by
  by_cases c : k = j
  · exact c
  · rcases wd_ne k hk j hj c with q | ⟨i, hi, q⟩
    · exact absurd (h1.1.symm.trans h2.1) q
    · exact absurd ((h1.2 i hi).symm.trans (h2.2 i (by rw [← h2.1, h1.1]; exact hi))) q
theorem wF_none {tb : Nat → Nat} {s e : Nat} : ∀ {n : Nat}, (∀ k, k < n → ¬ wd tb s e k) → wF tb s e n = none
  | 0, _ => by rw [wF]
  | n + 1, h => by rw [wF_f (h n (by omega))]; exact wF_none (fun k hk => h k (by omega))
theorem wF_some {tb : Nat → Nat} {s e k : Nat} (hk : k < 6) (h : wd tb s e k) : ∀ {n : Nat}, k < n → n ≤ 6 → wF tb s e n = some k
  | 0, h1, _ => by omega
  | n + 1, h1, h2 => by
    by_cases c : k = n
    · subst c; exact wF_t h
    · rw [wF_f (fun q => c (wd_uni hk (by omega) h q))]
      exact wF_some hk h (by omega) (by omega)
theorem wordOf_ok {L N s e : Nat} {tb : Nat → Nat} {f g : Nat → Int32} {K : Int32 → Prop} (hR : R_text L N tb f g) (hse : s ≤ e) (heN : e ≤ N) (h1 : ∀ k, wF tb s e 6 = some k → k < 6 → K (nI k)) (h0 : wF tb s e 6 = none → K (-1)) : wp_X8_wordOf g (nI e) (nI s) K := by
  have hL := hR.1
  have hN := hR.2.1
  have skip : ∀ (k4 : Int32 → Int32 → Prop) (k : Nat), k < 6 → k4 (nI (k + 1)) (nI (offW (k + 1))) → ∃ n97 : Nat, wp_X8_wordOf_b97 K k4 n97 (nI k) (nI (offW k)) := by
    intro k4 k hk hk4
    obtain ⟨o1, o2, o3, o4⟩ := off_sp k hk
    have loop : ∀ m i : Nat, i + m = mk_len.getD k 0 → wp_X8_wordOf_b97 K k4 (m + 1) (nI k) (nI (offW k + i)) := by
      intro m
      induction m with
      | zero =>
        intro i hi
        have hi : i = mk_len.getD k 0 := by omega
        subst hi
        rw [wp_X8_wordOf_b97, nI_clamp (by omega), o1, len6]
        refine ⟨by omega, vp_in_nI (by omega) (by omega), br_t rfl (fun y3 e3 y4 e4 => ?_)⟩
        rw [e3, e4, nI_1, nI_1, ← o2]
        exact hk4
      | succ m ih =>
        intro i hi
        obtain ⟨c1, c2, c3⟩ := off_ch k hk i (by omega)
        rw [wp_X8_wordOf_b97, nI_clamp (by omega), c1, len6]
        refine ⟨by omega, vp_in_nI (by omega) (by omega), br_f (fun q => c2 ((nI_eq (a := chN k i) (b := 32) (by omega) (by omega)).mp q)) (fun y5 e5 => ?_)⟩
        rw [e5, nI_1]
        exact ih (i + 1) (by omega)
    exact ⟨mk_len.getD k 0 + 1, by have := loop (mk_len.getD k 0) 0 (by omega); rw [Nat.add_zero] at this; exact this⟩
  have tryk : ∀ (k4 : Int32 → Int32 → Prop) (k : Nat), k < 6 → (wd tb s e k → K (nI k)) → (¬ wd tb s e k → k4 (nI (k + 1)) (nI (offW (k + 1)))) → ∃ n15 : Nat, wp_X8_wordOf_b15 K k4 g (nI e) (nI s) n15 (nI k) (nI (offW k)) 0 := by
    intro k4 k hk hy hn
    obtain ⟨o1, o2, o3, o4⟩ := off_sp k hk
    have no : ∀ i : Nat, i < mk_len.getD k 0 → ¬ wd tb s e k → wp_X8_wordOf_b69 K k4 (nI e) (nI s) (nI k) (nI (offW k)) (nI i) := by
      intro i hi hw
      obtain ⟨c1, c2, c3⟩ := off_ch k hk i hi
      rw [wp_X8_wordOf_b69, nI_add, nI_clamp (show offW k + i < 2 ^ 31 by omega), c1, len6]
      exact ⟨by omega, vp_in_nI (by omega) (by omega), ⟨fun _ => skip k4 k hk (hn hw), fun q => absurd ((nI_eq (a := chN k i) (b := 32) (by omega) (by omega)).mp q) c2⟩⟩
    have loop : ∀ m i : Nat, i + m = mk_len.getD k 0 → (∀ j, j < i → s + j < e ∧ tb (s + j) = chN k j) → wp_X8_wordOf_b15 K k4 g (nI e) (nI s) (m + 1) (nI k) (nI (offW k)) (nI i) := by
      intro m
      induction m with
      | zero =>
        intro i hi hj
        have hi : i = mk_len.getD k 0 := by omega
        subst hi
        rw [wp_X8_wordOf_b15, nI_add, nI_clamp (show offW k + mk_len.getD k 0 < 2 ^ 31 by omega), o1, len6]
        refine ⟨by omega, vp_in_nI (by omega) (by omega), br_t rfl ?_⟩
        rw [wp_X8_wordOf_b69, nI_add, nI_clamp (show offW k + mk_len.getD k 0 < 2 ^ 31 by omega), o1, len6, nI_add]
        refine ⟨by omega, vp_in_nI (by omega) (by omega), ⟨fun q => absurd rfl q, fun _ => ?_⟩⟩
        have := pk_eq (A := K (nI k)) (B := ∃ n97 : Nat, wp_X8_wordOf_b97 K k4 n97 (nI k) (nI (offW k))) (x := nI (s + mk_len.getD k 0)) (y := nI e) (s + mk_len.getD k 0) e (fun q => hy ⟨by omega, fun j hj' => (hj j hj').2⟩) (fun q => skip k4 k hk (hn (fun c => q (by have := c.1; have := (len_ok k (by omega)).1; omega))))
        exact ⟨this.2, this.1⟩
      | succ m ih =>
        intro i hi hj
        obtain ⟨c1, c2, c3⟩ := off_ch k hk i (by omega)
        rw [wp_X8_wordOf_b15, nI_add, nI_add, nI_clamp (show offW k + i < 2 ^ 31 by omega), c1, len6]
        refine ⟨by omega, vp_in_nI (by omega) (by omega), br_f (fun q => c2 ((nI_eq (a := chN k i) (b := 32) (by omega) (by omega)).mp q)) ?_⟩
        refine pk_le e (s + i) (fun h => no i (by omega) (fun c => by have := c.1; omega)) (fun h => ⟨vp_in_nI (by omega) (by omega), by omega, vp_in_nI (by omega) (by omega), ?_⟩)
        obtain ⟨t1, -, t3⟩ := hR.2.2 (s + i) (by omega)
        rw [nI_clamp (show s + i < 2 ^ 31 by omega), t3]
        have := pk_eq (A := ∀ y15 : Int32, y15 = nI i + 1 → wp_X8_wordOf_b15 K k4 g (nI e) (nI s) (m + 1) (nI k) (nI (offW k)) y15) (B := wp_X8_wordOf_b69 K k4 (nI e) (nI s) (nI k) (nI (offW k)) (nI i)) (x := nI (tb (s + i))) (y := nI (chN k i)) (tb (s + i)) (chN k i) (fun q y15 e15 => by
          rw [e15, nI_1]
          refine ih (i + 1) (by omega) (fun j hj' => ?_)
          by_cases z : j = i
          · subst z; exact ⟨h, q⟩
          · exact hj j (by omega)) (fun q => no i (by omega) (fun c => q (c.2 i (by omega))))
        exact ⟨this.2, this.1⟩
    exact ⟨mk_len.getD k 0 + 1, loop (mk_len.getD k 0) 0 (by omega) (fun j hj => by omega)⟩
  have outer : ∀ m k : Nat, k + m = 6 → (∀ j, j < k → ¬ wd tb s e j) → wp_X8_wordOf_b4 K g (nI e) (nI s) (m + 1) (nI k) (nI (offW k)) := by
    intro m
    induction m with
    | zero =>
      intro k hk hj
      have hk : k = 6 := by omega
      subst hk
      rw [wp_X8_wordOf_b4, len6]
      exact ⟨by omega, pk_le 37 37 (fun _ => h0 (wF_none hj)) (fun h => absurd h (by omega))⟩
    | succ m ih =>
      intro k hk hj
      obtain ⟨o1, o2, o3, o4⟩ := off_sp k (by omega)
      rw [wp_X8_wordOf_b4, len6]
      refine ⟨by omega, pk_le 37 (offW k) (fun h => absurd h (by omega)) (fun _ => ?_)⟩
      refine tryk _ k (by omega) (fun hw => h1 k (wF_some (by omega) hw (by omega) (by omega)) (by omega)) (fun hw => ?_)
      refine ih (k + 1) (by omega) (fun j hj' => ?_)
      by_cases z : j = k
      · subst z; exact hw
      · exact hj j (by omega)
  exact ⟨7, outer 6 0 (by omega) (fun j hj => by omega)⟩
