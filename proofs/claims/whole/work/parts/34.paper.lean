/-! papers -/
def lastM (pK : Nat → Nat) (q : Nat) : Nat → Option Nat
  | 0 => none
  | n + 1 => if pK n = q then some n else lastM pK q n
theorem lastM_some {pK : Nat → Nat} {q : Nat} : ∀ {n k : Nat}, lastM pK q n = some k → k < n ∧ pK k = q ∧ ∀ j, k < j → j < n → pK j ≠ q
  | 0, k, h => by rw [lastM] at h; cases h
  | n + 1, k, h => by
    rw [lastM] at h
    by_cases c : pK n = q
    · rw [if_pos c] at h
      cases h
      exact ⟨by omega, c, fun j h1 h2 => by omega⟩
    · rw [if_neg c] at h
      obtain ⟨h1, h2, h3⟩ := lastM_some h
      refine ⟨by omega, h2, fun j g1 g2 => ?_⟩
      by_cases e : j = n
      · subst e; exact c
      · exact h3 j g1 (by omega)
theorem lastM_none {pK : Nat → Nat} {q : Nat} : ∀ {n : Nat}, lastM pK q n = none → ∀ j, j < n → pK j ≠ q
  | 0, _, j, hj => by omega
  | n + 1, h, j, hj => by
    rw [lastM] at h
    by_cases c : pK n = q
    · rw [if_pos c] at h; cases h
    · rw [if_neg c] at h
      by_cases e : j = n
      · subst e; exact c
      · exact lastM_none h j (by omega)
theorem lastM_congr {pK pK' : Nat → Nat} {q : Nat} : ∀ {n : Nat}, (∀ j, j < n → pK j = pK' j) → lastM pK q n = lastM pK' q n
  | 0, _ => rfl
  | n + 1, h => by
    rw [lastM, lastM, h n (by omega), lastM_congr (fun j hj => h j (by omega))]
/-- does a paper of the kind q hold on a day, by the first n told -/
def hasN (pK pT pL : Nat → Nat) (q day : Nat) : Nat → Nat
  | 0 => 0
  | n + 1 => if pK n = q ∧ pT n ≤ day then (if day ≤ pL n then 1 else 0) else hasN pK pT pL q day n
theorem hasN_skip {pK pT pL : Nat → Nat} {q day : Nat} {k : Nat} : ∀ {n : Nat}, k ≤ n → (∀ j, k ≤ j → j < n → pK j ≠ q) → hasN pK pT pL q day n = hasN pK pT pL q day k
  | 0, h, _ => by have : k = 0 := by omega
                  subst this; rfl
  | n + 1, h, hj => by
    by_cases e : k = n + 1
    · subst e; rfl
    · rw [hasN, if_neg (fun c => hj n (by omega) (by omega) c.1)]
      exact hasN_skip (by omega) (fun j h1 h2 => hj j h1 (by omega))
theorem hasN_01 {pK pT pL : Nat → Nat} {q day : Nat} : ∀ n : Nat, hasN pK pT pL q day n = 0 ∨ hasN pK pT pL q day n = 1
  | 0 => Or.inl rfl
  | n + 1 => by
    rw [hasN]
    split
    · split
      · exact Or.inr rfl
      · exact Or.inl rfl
    · exact hasN_01 n
def R_paper (d P : Nat) (pW pS pT pL : Nat → Nat) (cr_latestPaper cr_paperBefore cr_paperLast cr_paperTold : Nat → Int32) (cr_papers : Int32) (mm_paperWorker mm_paperSkill mm_paperTold mm_paperLast : Nat → Int32) (mm_papers : Int32) : Prop :=
  P ≤ 100 ∧ cr_papers = nI P ∧ mm_papers = nI P ∧ rw_ P mm_paperWorker pW ∧ rw_ P mm_paperSkill pS ∧ rw_ P cr_paperTold pT ∧ rw_ P mm_paperTold pT ∧ rw_ P cr_paperLast pL ∧ rw_ P mm_paperLast pL ∧ (∀ q, q < 128 → cr_latestPaper q = oi (lastM (fun k => 8 * pW k + pS k) q P)) ∧ (∀ k, k < P → cr_paperBefore k = oi (lastM (fun k => 8 * pW k + pS k) (8 * pW k + pS k) k)) ∧ ∀ k, k < P → pW k < 16 ∧ pS k < 8 ∧ pT k ≤ d ∧ pL k < 100
theorem hasPaper_cls {d P w s day : Nat} {pW pS pT pL : Nat → Nat} {cr_latestPaper cr_paperBefore cr_paperLast cr_paperTold : Nat → Int32} {cr_papers : Int32} {mm_paperWorker mm_paperSkill mm_paperTold mm_paperLast : Nat → Int32} {mm_papers : Int32} {K : Int32 → Prop}
    (hR : R_paper d P pW pS pT pL cr_latestPaper cr_paperBefore cr_paperLast cr_paperTold cr_papers mm_paperWorker mm_paperSkill mm_paperTold mm_paperLast mm_papers) (hd : d < 100) (hw : w < 16) (hs : s < 8) (hday : day < 100) (hK : K (nI (hasN (fun k => 8 * pW k + pS k) pT pL (8 * w + s) day P))) :
    wp_X1_hasPaper cr_latestPaper cr_paperBefore cr_paperLast cr_paperTold cr_papers (nI w) (nI s) (nI day) K := by
  obtain ⟨hP, rfl, rfl, -, -, t1, -, l1, -, hlat, hbef, hrg⟩ := hR
  have loop : ∀ m n i : Nat, n ≤ m → i + n ≤ P → K (nI (hasN (fun k => 8 * pW k + pS k) pT pL (8 * w + s) day n)) → wp_X1_hasPaper_b16 K cr_paperBefore cr_paperLast cr_paperTold (nI P) (nI day) (m + 1) (oi (lastM (fun k => 8 * pW k + pS k) (8 * w + s) n)) (nI i) := by
    intro m
    induction m with
    | zero =>
      intro n i hn hi hK
      have hn : n = 0 := by omega
      subst hn
      rw [wp_X1_hasPaper_b16]
      exact ⟨fun _ => hK, fun _ => ⟨fun _ => hK, fun q => absurd rfl q⟩⟩
    | succ m ih =>
      intro n i hn hi hK
      rw [wp_X1_hasPaper_b16]
      refine pk_le P i (fun h => ?_) (fun h => ?_)
      · have hn : n = 0 := by omega
        subst hn
        exact hK
      · cases e : lastM (fun k => 8 * pW k + pS k) (8 * w + s) n with
        | none =>
          refine ⟨fun _ => ?_, fun q => absurd rfl q⟩
          rw [hasN_skip (k := 0) (Nat.zero_le n) (fun j _ h2 => lastM_none e j h2)] at hK
          exact hK
        | some k =>
          obtain ⟨h1, h2, h3⟩ := lastM_some e
          obtain ⟨-, -, hT, hL⟩ := hrg k (by omega)
          have hin : vp_in (nI k) 100 := vp_in_nI (by omega) (by omega)
          have hcl : (nI k).toNatClampNeg = k := nI_clamp (by omega)
          rw [hasN_skip (k := k + 1) (by omega) (fun j g1 g2 => h3 j (by omega) g2), hasN] at hK
          refine ⟨fun q => absurd q (ne_m1 (by omega)), fun _ => ⟨hin, ?_⟩⟩
          show (nI day < cr_paperTold (nI k).toNatClampNeg → vp_in (nI k) 100 ∧ ∀ y6 : Int32, y6 = cr_paperBefore (nI k).toNatClampNeg → _) ∧ (¬ nI day < cr_paperTold (nI k).toNatClampNeg → vp_in (nI k) 100 ∧ (cr_paperLast (nI k).toNatClampNeg < nI day → _) ∧ (¬ cr_paperLast (nI k).toNatClampNeg < nI day → _))
          rw [hcl, t1 k (by omega), l1 k (by omega), hbef k (by omega)]
          have h2' : 8 * pW k + pS k = 8 * w + s := h2
          refine pk_lt day (pT k) (fun g => ⟨hin, fun y6 e6 y7 e7 => ?_⟩) (fun g => ⟨hin, ?_⟩)
          · rw [if_neg (fun c => by have := c.2; omega)] at hK
            rw [e6, e7, nI_1, h2']
            exact ih k (i + 1) (by omega) (by omega) hK
          · rw [if_pos ⟨h2, g⟩] at hK
            refine pk_lt (pL k) day (fun g2 => ?_) (fun g2 => ?_)
            · rw [if_neg (by omega)] at hK; exact hK
            · rw [if_pos g2] at hK; exact hK
  have hx : nI w * 8 + nI s = nI (8 * w + s) := by rw [show (8 : Int32) = nI 8 from rfl, pk_mul, nI_add, Nat.mul_comm]
  unfold wp_X1_hasPaper
  rw [hx, nI_clamp (show 8 * w + s < 2 ^ 31 by omega), hlat _ (by omega)]
  refine ⟨vp_in_nI (by omega) (by omega), fun y e => ⟨P + 1, ?_⟩⟩
  rw [e]
  exact loop P P 0 (Nat.le_refl _) (by omega) hK
theorem hasPaper_ref {d P w s day : Nat} {pW pS pT pL : Nat → Nat} {cr_latestPaper cr_paperBefore cr_paperLast cr_paperTold : Nat → Int32} {cr_papers : Int32} {mm_paperWorker mm_paperSkill mm_paperTold mm_paperLast : Nat → Int32} {mm_papers : Int32} {K : Int32 → Prop}
    (hR : R_paper d P pW pS pT pL cr_latestPaper cr_paperBefore cr_paperLast cr_paperTold cr_papers mm_paperWorker mm_paperSkill mm_paperTold mm_paperLast mm_papers) (hd : d < 100) (hw : w < 16) (hs : s < 8) (hday : day < 100) (hK : K (nI (hasN (fun k => 8 * pW k + pS k) pT pL (8 * w + s) day P))) :
    wp_X8_hasPaper mm_paperWorker mm_paperSkill mm_paperTold mm_paperLast mm_papers (nI w) (nI s) (nI day) K := by
  obtain ⟨hP, rfl, rfl, w1, s1, -, t1, -, l1, -, -, hrg⟩ := hR
  have loop : ∀ m i : Nat, i + m = P → wp_X8_hasPaper_b6 K mm_paperWorker mm_paperSkill mm_paperTold mm_paperLast (nI P) (nI w) (nI s) (nI day) (m + 1) (nI (hasN (fun k => 8 * pW k + pS k) pT pL (8 * w + s) day i)) (nI i) := by
    intro m
    induction m with
    | zero =>
      intro i hi
      have hi : i = P := by omega
      subst hi
      rw [wp_X8_hasPaper_b6]
      refine pk_le i i (fun _ => ⟨?_, hK⟩) (fun h => absurd h (by omega))
      rcases hasN_01 (pK := fun k => 8 * pW k + pS k) (pT := pT) (pL := pL) (q := 8 * w + s) (day := day) i with h | h
      · rw [h]; exact Or.inl rfl
      · rw [h]; exact Or.inr rfl
    | succ m ih =>
      intro i hi
      have hin : vp_in (nI i) 100 := vp_in_nI (by omega) (by omega)
      have hcl : (nI i).toNatClampNeg = i := nI_clamp (by omega)
      obtain ⟨g1, g2, g3, g4⟩ := hrg i (by omega)
      have next : ∀ v, hasN (fun k => 8 * pW k + pS k) pT pL (8 * w + s) day (i + 1) = v → ∀ y : Int32, y = nI i + 1 → wp_X8_hasPaper_b6 K mm_paperWorker mm_paperSkill mm_paperTold mm_paperLast (nI P) (nI w) (nI s) (nI day) (m + 1) (nI v) y := by
        intro v hv y hy
        rw [hy, nI_1, ← hv]
        exact ih (i + 1) (by omega)
      rw [wp_X8_hasPaper_b6]
      refine pk_le P i (fun h => absurd h (by omega)) (fun _ => ⟨hin, ?_⟩)
      rw [hcl, w1 i (by omega), s1 i (by omega), t1 i (by omega), l1 i (by omega)]
      by_cases a : pW i = w
      · refine ⟨fun q => absurd (by rw [a]) q, fun _ => ⟨hin, ?_⟩⟩
        by_cases b : pS i = s
        · refine ⟨fun q => absurd (by rw [b]) q, fun _ => ⟨hin, ?_⟩⟩
          refine pk_lt day (pT i) (fun g => next _ (by rw [hasN, if_neg (fun c => by have := c.2; omega)])) (fun g => ⟨hin, ?_⟩)
          refine pk_lt (pL i) day (fun f => next 0 (by rw [hasN, if_pos ⟨by rw [a, b], g⟩, if_neg (by omega)])) (fun f => next 1 (by rw [hasN, if_pos ⟨by rw [a, b], g⟩, if_pos f]))
        · refine ⟨fun _ => next _ (by rw [hasN, if_neg (fun c => by have := c.1; omega)]), fun q => absurd ((nI_eq (by omega) (by omega)).mp q) b⟩
      · refine ⟨fun _ => next _ (by rw [hasN, if_neg (fun c => by have := c.1; omega)]), fun q => absurd ((nI_eq (by omega) (by omega)).mp q) a⟩
  exact ⟨P + 1, loop P 0 (by omega)⟩
