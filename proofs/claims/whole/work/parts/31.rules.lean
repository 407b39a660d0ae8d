/-! The rules: what they say -/
def cnt (tF tV tU : Nat → Nat) (tS : Nat → Nat → Nat) (key day known t : Nat) : Prop := tS t key ≠ 1000 ∧ tF t ≤ day ∧ tV t ≤ known ∧ known < tU t
noncomputable def lawStep (tF tV tU : Nat → Nat) (tS : Nat → Nat → Nat) (key day known n : Nat) (p : Option Nat) : Option Nat :=
  match Classical.propDecidable (cnt tF tV tU tS key day known n ∧ ∀ q, p = some q → tF q ≤ tF n) with
  | .isTrue _ => some n
  | .isFalse _ => p
/-- the text that counts among the first n -/
noncomputable def lawF (tF tV tU : Nat → Nat) (tS : Nat → Nat → Nat) (key day known : Nat) : Nat → Option Nat
  | 0 => none
  | n + 1 => lawStep tF tV tU tS key day known n (lawF tF tV tU tS key day known n)
theorem lawF_t {tF tV tU : Nat → Nat} {tS : Nat → Nat → Nat} {key day known n : Nat} (h : cnt tF tV tU tS key day known n) (h2 : ∀ q, lawF tF tV tU tS key day known n = some q → tF q ≤ tF n) : lawF tF tV tU tS key day known (n + 1) = some n := by
  rw [lawF, lawStep]
  split
  · rfl
  · exact absurd (And.intro h h2) (by assumption)
theorem lawF_f {tF tV tU : Nat → Nat} {tS : Nat → Nat → Nat} {key day known n : Nat} (h : ¬ (cnt tF tV tU tS key day known n ∧ ∀ q, lawF tF tV tU tS key day known n = some q → tF q ≤ tF n)) : lawF tF tV tU tS key day known (n + 1) = lawF tF tV tU tS key day known n := by
  rw [lawF, lawStep]
  split
  · exact absurd (by assumption) h
  · rfl
theorem lawF_lt {tF tV tU : Nat → Nat} {tS : Nat → Nat → Nat} {key day known : Nat} : ∀ {n q : Nat}, lawF tF tV tU tS key day known n = some q → q < n ∧ tS q key ≠ 1000
  | 0, q, h => by rw [lawF] at h; cases h
  | n + 1, q, h => by
    by_cases c : (cnt tF tV tU tS key day known n ∧ ∀ q, lawF tF tV tU tS key day known n = some q → tF q ≤ tF n)
    · rw [lawF_t c.1 c.2] at h
      cases h
      exact ⟨by omega, c.1.1⟩
    · rw [lawF_f c] at h
      have := lawF_lt h
      exact ⟨by omega, this.2⟩
noncomputable def lawS (T : Nat) (tF tV tU : Nat → Nat) (tS : Nat → Nat → Nat) (key day known : Nat) : Nat := match lawF tF tV tU tS key day known T with
  | none => 0
  | some t => tS t key
def R_rules (d T : Nat) (tF tV tU : Nat → Nat) (tS : Nat → Nat → Nat) (ru_from ru_voted ru_undone ru_says : Nat → Int32) (ru_texts : Int32) (mm_toldOn mm_fromDay mm_undoneOn mm_values : Nat → Int32) (mm_texts : Int32) : Prop :=
  T ≤ 10 ∧ ru_texts = nI T ∧ mm_texts = nI T ∧ rw_ T ru_from tF ∧ rw_ T mm_fromDay tF ∧ (∀ t, t < T → tF t < 100) ∧ rw_ T ru_voted tV ∧ rw_ T mm_toldOn tV ∧ (∀ t, t < T → tV t ≤ d) ∧ (∀ t, t < T → (tU t = 1000 ∧ ru_undone t = -1) ∨ (tU t ≤ d ∧ ru_undone t = nI (tU t))) ∧ rw_ T mm_undoneOn tU ∧ (∀ t k, t < T → k < 8 → ru_says (t * 8 + k) = sv (tS t k)) ∧ (∀ t k, t < T → k < 8 → mm_values (8 * t + k) = sv (tS t k)) ∧ (∀ t k, t < T → k < 8 → tS t k ≤ 1000)
theorem said_ok {d T key day known : Nat} {tF tV tU : Nat → Nat} {tS : Nat → Nat → Nat} {ru_from ru_voted ru_undone ru_says : Nat → Int32} {ru_texts : Int32} {mm_toldOn mm_fromDay mm_undoneOn mm_values : Nat → Int32} {mm_texts : Int32} {K : Int32 → Prop}
    (hR : R_rules d T tF tV tU tS ru_from ru_voted ru_undone ru_says ru_texts mm_toldOn mm_fromDay mm_undoneOn mm_values mm_texts) (hd : d < 100) (hk : key < 8) (hday : day < 100) (hkn : known < 100) (hK : K (nI (lawS T tF tV tU tS key day known))) :
    wp_X4_said ru_from ru_voted ru_undone ru_says ru_texts (nI key) (nI day) (nI known) K := by
  obtain ⟨hT, rfl, rfl, r1, -, hF, r3, -, hV, hU, -, hs, -, hs3⟩ := hR
  have key1 : ∀ m i : Nat, i + m = T → wp_X4_said_b6 K ru_from ru_voted ru_undone ru_says (nI T) (nI key) (nI day) (nI known) (m + 1) (oi (lawF tF tV tU tS key day known i)) (nI i) := by
    intro m
    induction m with
    | zero =>
      intro i hi
      have hi : i = T := by omega
      subst hi
      rw [wp_X4_said_b6]
      refine pk_le i i (fun _ => ?_) (fun h => absurd h (by omega))
      rw [lawS] at hK
      cases e : lawF tF tV tU tS key day known i with
      | none => rw [e] at hK; exact ⟨fun q => absurd rfl q, fun _ => hK⟩
      | some t =>
        rw [e] at hK
        have ht := lawF_lt e
        have hx : nI t * 8 + nI key = nI (t * 8 + key) := by rw [show (8 : Int32) = nI 8 from rfl, pk_mul, nI_add]
        refine ⟨fun _ => ⟨?_, ?_⟩, fun q => absurd q (ne_m1 (by omega))⟩
        · show vp_in (nI t * 8 + nI key) 80
          rw [hx]; exact vp_in_nI (by omega) (by omega)
        · show K (ru_says (nI t * 8 + nI key).toNatClampNeg)
          rw [hx, nI_clamp (by omega), hs t key ht.1 hk, sv_ne ht.2]
          exact hK
    | succ m ih =>
      intro i hi
      have hiT : i < T := by omega
      have next : ∀ o, lawF tF tV tU tS key day known (i + 1) = o → ∀ y : Int32, y = nI i + 1 → wp_X4_said_b6 K ru_from ru_voted ru_undone ru_says (nI T) (nI key) (nI day) (nI known) (m + 1) (oi o) y := by
        intro o ho y hy
        rw [hy, nI_1, ← ho]
        exact ih (i + 1) (by omega)
      have hx : nI i * 8 + nI key = nI (i * 8 + key) := by rw [show (8 : Int32) = nI 8 from rfl, pk_mul, nI_add]
      have hin : vp_in (nI i) 10 := vp_in_nI (by omega) (by omega)
      have hcl : (nI i).toNatClampNeg = i := nI_clamp (by omega)
      rw [wp_X4_said_b6]
      refine pk_le T i (fun h => absurd h (by omega)) (fun _ => ?_)
      rw [hx, nI_clamp (show i * 8 + key < 2 ^ 31 by omega), hs i key hiT hk, hcl, r1 i hiT]
      refine ⟨vp_in_nI (by omega) (by omega), ?_⟩
      by_cases h0 : tS i key = 1000
      · refine br_t (by rw [h0]; rfl) (next _ (lawF_f (fun c => c.1.1 h0)))
      · rw [sv_ne h0]
        have h9 := hs3 i key hiT hk
        refine br_f (ne_m1 (by omega)) ⟨hin, ?_⟩
        have hFi := hF i hiT
        refine pk_lt day (tF i) (fun h => next _ (lawF_f (fun c => by have := c.1.2.1; omega))) (fun hday2 => ?_)
        rw [wp_X4_isKnown, hcl, r3 i hiT]
        refine ⟨hin, ?_⟩
        have hVi := hV i hiT
        have unk : ¬ (tV i ≤ known ∧ known < tU i) → ∀ y : Int32, y = nI i + 1 → wp_X4_said_b6 K ru_from ru_voted ru_undone ru_says (nI T) (nI key) (nI day) (nI known) (m + 1) (oi (lawF tF tV tU tS key day known i)) y := fun hn => next _ (lawF_f (fun c => hn c.1.2.2))
        have kn : (tV i ≤ known ∧ known < tU i) → ((oi (lawF tF tV tU tS key day known i) = -1 → ∀ y14 : Int32, y14 = nI i + 1 → wp_X4_said_b6 K ru_from ru_voted ru_undone ru_says (nI T) (nI key) (nI day) (nI known) (m + 1) (nI i) y14) ∧ (¬ oi (lawF tF tV tU tS key day known i) = -1 → (vp_in (nI i) 10 ∧ (vp_in (oi (lawF tF tV tU tS key day known i)) 10 ∧ ((nI (tF i) < ru_from (oi (lawF tF tV tU tS key day known i)).toNatClampNeg → ∀ y18 : Int32, y18 = nI i + 1 → wp_X4_said_b6 K ru_from ru_voted ru_undone ru_says (nI T) (nI key) (nI day) (nI known) (m + 1) (oi (lawF tF tV tU tS key day known i)) y18) ∧ (¬ nI (tF i) < ru_from (oi (lawF tF tV tU tS key day known i)).toNatClampNeg → ∀ y19 : Int32, y19 = nI i + 1 → wp_X4_said_b6 K ru_from ru_voted ru_undone ru_says (nI T) (nI key) (nI day) (nI known) (m + 1) (nI i) y19)))))) := by
          intro hkn2
          have hcnt : cnt tF tV tU tS key day known i := ⟨h0, hday2, hkn2.1, hkn2.2⟩
          cases e : lawF tF tV tU tS key day known i with
          | none =>
            exact ⟨fun _ => next _ (lawF_t hcnt (fun q hq => by rw [e] at hq; cases hq)), fun q => absurd rfl q⟩
          | some t =>
            have ht := lawF_lt e
            refine ⟨fun q => absurd q (ne_m1 (by omega)), fun _ => ⟨hin, vp_in_nI (by omega) (by omega), ?_⟩⟩
            show (nI (tF i) < ru_from (nI t).toNatClampNeg → _) ∧ (¬ nI (tF i) < ru_from (nI t).toNatClampNeg → _)
            have hFt := hF t (by omega)
            rw [nI_clamp (show t < 2 ^ 31 by omega), r1 t (by omega)]
            refine pk_lt (tF i) (tF t) (fun h => ?_) (fun h => ?_)
            · exact next (some t) ((lawF_f (fun c => by have := c.2 t e; omega)).trans e)
            · exact next (some i) (lawF_t hcnt (fun q hq => by rw [e] at hq; cases hq; exact h))
        refine pk_lt known (tV i) (fun h => ⟨fun _ => unk (by omega), fun q => absurd rfl q⟩) (fun h => ⟨hin, ?_⟩)
        rcases hU i hiT with ⟨hu, hu2⟩ | ⟨hu, hu2⟩
        · rw [hu2]
          exact br_t rfl ⟨fun q => absurd q (by decide), fun _ => kn ⟨h, by omega⟩⟩
        · rw [hu2]
          exact br_f (ne_m1 (by omega)) ⟨hin, pk_le (tU i) known (fun h2 => ⟨fun _ => unk (by omega), fun q => absurd rfl q⟩) (fun h2 => ⟨fun q => absurd q (by decide), fun _ => kn ⟨h, h2⟩⟩)⟩
  exact ⟨T + 1, by have := key1 T 0 (by omega); rw [lawF] at this; exact this⟩
def lv4 (tS : Nat → Nat → Nat) (key : Nat) (o : Option Nat) : Int32 := match o with | none => 0 | some t => nI (tS t key)
def lv5 (tF : Nat → Nat) (o : Option Nat) : Int32 := match o with | none => -1 | some t => nI (tF t)
theorem lawOf_ok {d T key day known : Nat} {tF tV tU : Nat → Nat} {tS : Nat → Nat → Nat} {ru_from ru_voted ru_undone ru_says : Nat → Int32} {ru_texts : Int32} {mm_toldOn mm_fromDay mm_undoneOn mm_values : Nat → Int32} {mm_texts : Int32} {K : Int32 → Prop}
    (hR : R_rules d T tF tV tU tS ru_from ru_voted ru_undone ru_says ru_texts mm_toldOn mm_fromDay mm_undoneOn mm_values mm_texts) (hd : d < 100) (hk : key < 8) (hday : day < 100) (hkn : known < 100) (hK : K (nI (lawS T tF tV tU tS key day known))) :
    wp_X8_lawOf mm_toldOn mm_fromDay mm_undoneOn mm_values mm_texts (nI key) (nI day) (nI known) K := by
  obtain ⟨hT, rfl, rfl, -, r1, hF, -, r3, hV, hU0, hU, -, hs, hs3⟩ := hR
  have key1 : ∀ m i : Nat, i + m = T → wp_X8_lawOf_b9 K mm_toldOn mm_fromDay mm_undoneOn mm_values (nI T) (nI key) (nI day) (nI known) (m + 1) (lv4 tS key (lawF tF tV tU tS key day known i)) (lv5 tF (lawF tF tV tU tS key day known i)) (nI i) := by
    intro m
    induction m with
    | zero =>
      intro i hi
      have hi : i = T := by omega
      subst hi
      rw [wp_X8_lawOf_b9]
      refine pk_le i i (fun _ => ?_) (fun h => absurd h (by omega))
      rw [lawS] at hK
      cases e : lawF tF tV tU tS key day known i with
      | none => rw [e] at hK; exact hK
      | some t => rw [e] at hK; exact hK
    | succ m ih =>
      intro i hi
      have hiT : i < T := by omega
      have next : ∀ o, lawF tF tV tU tS key day known (i + 1) = o → ∀ y : Int32, y = nI i + 1 → wp_X8_lawOf_b9 K mm_toldOn mm_fromDay mm_undoneOn mm_values (nI T) (nI key) (nI day) (nI known) (m + 1) (lv4 tS key o) (lv5 tF o) y := by
        intro o ho y hy
        rw [hy, nI_1, ← ho]
        exact ih (i + 1) (by omega)
      have hx : 8 * nI i + nI key = nI (8 * i + key) := by rw [show (8 : Int32) = nI 8 from rfl, pk_mul, nI_add]
      have hin : vp_in (nI i) 10 := vp_in_nI (by omega) (by omega)
      have hcl : (nI i).toNatClampNeg = i := nI_clamp (by omega)
      have skip : ¬ cnt tF tV tU tS key day known i → wp_X8_lawOf_b71 K (fun x4 x5 x6 => wp_X8_lawOf_b9 K mm_toldOn mm_fromDay mm_undoneOn mm_values (nI T) (nI key) (nI day) (nI known) (m + 1) x4 x5 x6) mm_fromDay mm_values (nI key) (lv4 tS key (lawF tF tV tU tS key day known i)) (lv5 tF (lawF tF tV tU tS key day known i)) (nI i) := by
        intro hn
        rw [wp_X8_lawOf_b71, wp_X8_lawOf_b72]
        exact br_t rfl (next _ (lawF_f (fun c => hn c.1)))
      have hFi := hF i hiT
      have hVi := hV i hiT
      have hUi : tU i < 2 ^ 31 := by rcases hU0 i hiT with h | h <;> omega
      rw [wp_X8_lawOf_b9]
      refine pk_le T i (fun h => absurd h (by omega)) (fun _ => ⟨hin, ?_⟩)
      rw [hcl, hx, nI_clamp (show 8 * i + key < 2 ^ 31 by omega), hs i key hiT hk, r1 i hiT, r3 i hiT, hU i hiT]
      refine pk_lt known (tV i) (fun h => skip (fun c => by have := c.2.2.1; omega)) (fun h1 => ⟨hin, ?_⟩)
      refine pk_le (tU i) known (fun h => skip (fun c => by have := c.2.2.2; omega)) (fun h2 => ⟨hin, ?_⟩)
      refine pk_lt day (tF i) (fun h => skip (fun c => by have := c.2.1; omega)) (fun h3 => ⟨vp_in_nI (by omega) (by omega), ?_⟩)
      by_cases h0 : tS i key = 1000
      · exact br_t (by rw [h0]; rfl) (skip (fun c => c.1 h0))
      · rw [sv_ne h0]
        have h9 := hs3 i key hiT hk
        have hcnt : cnt tF tV tU tS key day known i := ⟨h0, h3, h1, h2⟩
        refine br_f (ne_m1 (by omega)) ?_
        rw [wp_X8_lawOf_b72, hcl, hx, nI_clamp (show 8 * i + key < 2 ^ 31 by omega), hs i key hiT hk, r1 i hiT, sv_ne h0]
        refine ⟨fun q => absurd q (by decide), fun _ => ⟨hin, ?_⟩⟩
        have take : (∀ q, lawF tF tV tU tS key day known i = some q → tF q ≤ tF i) → (vp_in (nI i) 10 ∧ ∀ y6 : Int32, y6 = nI (tF i) → (vp_in (nI (8 * i + key)) 88 ∧ ∀ y8 : Int32, y8 = nI (tS i key) → ∀ y9 : Int32, y9 = nI i + 1 → wp_X8_lawOf_b9 K mm_toldOn mm_fromDay mm_undoneOn mm_values (nI T) (nI key) (nI day) (nI known) (m + 1) y8 y6 y9)) := by
          intro hq
          refine ⟨hin, fun y6 e6 => ⟨vp_in_nI (by omega) (by omega), fun y8 e8 y9 e9 => ?_⟩⟩
          rw [e6, e8]
          exact next (some i) (lawF_t hcnt hq) y9 e9
        cases e : lawF tF tV tU tS key day known i with
        | none => exact br_t (Int32.le_of_lt (m1_lt (by omega))) (take (fun q hq => by rw [e] at hq; cases hq))
        | some t =>
          have ht := lawF_lt e
          have hFt := hF t (by omega)
          refine pk_le (tF t) (tF i) (fun h => take (fun q hq => by rw [e] at hq; cases hq; exact h)) (fun h => ?_)
          exact next (some t) ((lawF_f (fun c => by have := c.2 t e; omega)).trans e)
  exact ⟨T + 1, by have := key1 T 0 (by omega); rw [lawF] at this; exact this⟩
