/-! the reference's nextCall -/
def keyS (cm : Nat → Nat) (k : Nat) : Nat := cm k * 64 + k
def bhS (cY cm : Nat → Nat) (D : Nat) (o : Option Nat) (k : Nat) : Prop := cY k = D ∧ ∀ c, o = some c → keyS cm c < keyS cm k
def bestS (cY cm : Nat → Nat) (D : Nat) (o : Option Nat) (i : Nat) (b : Option Nat) : Prop := (b = none → ∀ k, k < i → ¬ bhS cY cm D o k) ∧ (∀ q, b = some q → q < i ∧ bhS cY cm D o q ∧ ∀ k, k < i → bhS cY cm D o k → keyS cm q ≤ keyS cm k)
theorem best_skip {cY cm : Nat → Nat} {D i : Nat} {o b : Option Nat} (h : bestS cY cm D o i b) (hn : ¬ bhS cY cm D o i) : bestS cY cm D o (i + 1) b := by
  refine ⟨fun hb k hk q => ?_, fun q hq => ?_⟩
  · by_cases c : k = i
    · rw [c] at q; exact hn q
    · exact h.1 hb k (by omega) q
  · have := h.2 q hq
    refine ⟨by omega, this.2.1, fun k hk z => ?_⟩
    by_cases c : k = i
    · rw [c] at z; exact absurd z hn
    · exact this.2.2 k (by omega) z
theorem nextCall_r {C D : Nat} {cY cm : Nat → Nat} {o : Option Nat} {fm fy : Nat → Int32} {K : Int32 → Prop} (hC : C ≤ 60) (hD : D < 100) (hY : ∀ k, k < C → cY k < 100) (hm : ∀ k, k < C → cm k < 600) (rm : rw_ C fm cm) (ry : rw_ C fy cY) (ho : ∀ c, o = some c → c < C)
    (hK : ∀ b, bestS cY cm D o C b → K (oi b)) : wp_X8_nextCall fm fy (nI C) (nI D) (oi o) K := by
  have loop : ∀ m i (b : Option Nat), i + m = C → bestS cY cm D o i b → wp_X8_nextCall_b5 K fm fy (nI C) (nI D) (oi o) (m + 1) (oi b) (nI i) := by
    intro m
    induction m with
    | zero =>
      intro i b hi hb
      rw [wp_X8_nextCall_b5]
      refine pk_le C i (fun _ => hK b (by rw [show C = i from by omega]; exact hb)) (fun q => by omega)
    | succ m ih =>
      intro i b hi hb
      rw [wp_X8_nextCall_b5]
      refine pk_le C i (fun q => by omega) (fun _ => ⟨vp_in_nI (by omega) (by omega), ?_⟩)
      have yi := hY i (by omega)
      have mi := hm i (by omega)
      rw [nI_clamp (n := i) (by omega), ry i (by omega)]
      have skip : ¬ bhS cY cm D o i → wp_X8_nextCall_b75 K (fun x3 x4 => wp_X8_nextCall_b5 K fm fy (nI C) (nI D) (oi o) (m + 1) x3 x4) fm (oi b) (nI i) := by
        intro hn
        unfold wp_X8_nextCall_b75 wp_X8_nextCall_b76
        refine ⟨fun _ => ?_, fun q => absurd rfl q⟩
        rintro _ rfl
        rw [nI_1]
        exact ih (i + 1) b (by omega) (best_skip hb hn)
      have take : bhS cY cm D o i → wp_X8_nextCall_b71 K (fun x3 x4 => wp_X8_nextCall_b5 K fm fy (nI C) (nI D) (oi o) (m + 1) x3 x4) fm (oi b) (nI i) := by
        intro hn
        unfold wp_X8_nextCall_b71 wp_X8_nextCall_b76
        refine ⟨fun q => absurd q one0, fun _ => ?_⟩
        have new : (∀ q, b = some q → cm i < cm q) → ∀ y : Int32, y = nI i + 1 → wp_X8_nextCall_b5 K fm fy (nI C) (nI D) (oi o) (m + 1) (nI i) y := by
          rintro hq _ rfl
          rw [nI_1]
          refine ih (i + 1) (some i) (by omega) ⟨(fun z => by cases z), fun q z => ?_⟩
          cases z
          refine ⟨by omega, hn, fun k hk hbk => ?_⟩
          by_cases c : k = i
          · rw [c]; exact Nat.le_refl _
          · cases b with
            | none => exact absurd hbk (hb.1 rfl k (by omega))
            | some q =>
              have a := (hb.2 q rfl).2.2 k (by omega) hbk
              have := hq q rfl
              have := (hb.2 q rfl).1
              unfold keyS at a ⊢
              omega
        cases b with
        | none => exact ⟨fun _ => new (fun q z => by cases z), fun q => absurd rfl q⟩
        | some q =>
          have bq := hb.2 q rfl
          have mq := hm q (by omega)
          refine ⟨fun z => absurd z (ne_m1 (v := q) (by omega)), fun _ => ⟨vp_in_nI (by omega) (by omega), vp_in_nI (by omega) (by omega), ?_⟩⟩
          rw [show (oi (some q)).toNatClampNeg = q from nI_clamp (n := q) (by omega), nI_clamp (n := i) (by omega), rm q (by omega), rm i (by omega)]
          refine pk_le (cm q) (cm i) (fun z => ?_) (fun z => new (fun q' z' => by cases z'; exact z))
          rintro _ rfl
          rw [nI_1]
          refine ih (i + 1) (some q) (by omega) ⟨(fun z => by cases z), fun q' z' => ?_⟩
          cases z'
          refine ⟨by omega, bq.2.1, fun k hk hbk => ?_⟩
          by_cases c : k = i
          · rw [c]; unfold keyS; omega
          · exact bq.2.2 k (by omega) hbk
      refine ⟨fun q => ?_, fun q => ?_⟩
      · have qY : cY i = D := (nI_eq (by omega) (by omega)).mp q
        cases o with
        | none => exact ⟨fun _ => take ⟨qY, fun c z => by cases z⟩, fun z => absurd rfl z⟩
        | some c =>
          have hc := ho c rfl
          have mc := hm c hc
          refine ⟨fun z => absurd z (ne_m1 (v := c) (by omega)), fun _ => ⟨vp_in_nI (by omega) (by omega), vp_in_nI (by omega) (by omega), ?_⟩⟩
          rw [show (oi (some c)).toNatClampNeg = c from nI_clamp (n := c) (by omega), rm c hc, rm i (by omega)]
          refine pk_lt (cm c) (cm i) (fun z => take ⟨qY, fun c' z' => by cases z'; unfold keyS; omega⟩) (fun z => ⟨vp_in_nI (by omega) (by omega), vp_in_nI (by omega) (by omega), ?_⟩)
          refine ⟨fun z2 => ?_, fun z2 => ?_⟩
          · have : cm i ≠ cm c := fun w => z2 (by rw [w])
            exact skip (fun w => by have := w.2 c rfl; unfold keyS at this; omega)
          · have : cm i = cm c := (nI_eq (by omega) (by omega)).mp z2
            refine pk_le i c (fun z3 => skip (fun w => by have := w.2 c rfl; unfold keyS at this; omega)) (fun z3 => take ⟨qY, fun c' z' => by cases z'; unfold keyS; omega⟩)
      · have qY : cY i ≠ D := fun w => q (by rw [w])
        rintro _ rfl
        rw [nI_1]
        exact ih (i + 1) b (by omega) (best_skip hb (fun w => qY w.1))
  unfold wp_X8_nextCall
  exact ⟨C + 1, loop C 0 none (by omega) ⟨fun _ k hk => by omega, fun q z => by cases z⟩⟩
/-- the day's calls in their order: the next one -/
def CLs (C : Nat) (cY cm : Nat → Nat) (D : Nat) (cl : List Nat) : Prop := (∀ k, k ∈ cl ↔ (k < C ∧ cY k = D)) ∧ cl.Pairwise (fun a b => keyS cm a < keyS cm b)
theorem head_best {C D : Nat} {cY cm : Nat → Nat} {o b : Option Nat} {pre suf : List Nat} (hcl : CLs C cY cm D (pre ++ suf)) (ho : (o = none ∧ pre = []) ∨ ∃ p c, o = some c ∧ pre = p ++ [c]) (hb : bestS cY cm D o C b) : b = suf.head? := by
  have inSuf : ∀ k, k < C → bhS cY cm D o k → k ∈ suf := by
    intro k hk hbk
    have := (hcl.1 k).mpr ⟨hk, hbk.1⟩
    rw [List.mem_append] at this
    rcases this with t | t
    · exfalso
      rcases ho with ⟨-, h⟩ | ⟨p, c, h1, h2⟩
      · rw [h] at t; exact List.not_mem_nil t
      · have key := hbk.2 c h1
        rw [h2] at t hcl
        rw [List.mem_append, List.mem_singleton] at t
        rcases t with t | t
        · have pw := hcl.2
          rw [List.append_assoc, List.pairwise_append] at pw
          have := pw.2.2 k t c (by simp)
          omega
        · rw [t] at key; omega
    · exact t
  have sufBh : ∀ k, k ∈ suf → k < C ∧ bhS cY cm D o k := by
    intro k hk
    have a := (hcl.1 k).mp (List.mem_append_right _ hk)
    refine ⟨a.1, a.2, fun c hc => ?_⟩
    rcases ho with ⟨h, -⟩ | ⟨p, c', h1, h2⟩
    · rw [h] at hc; cases hc
    · rw [h1] at hc
      cases hc
      have pw := hcl.2
      rw [h2, List.pairwise_append] at pw
      exact pw.2.2 c (by simp) k hk
  cases suf with
  | nil =>
    cases b with
    | none => rfl
    | some q => exact absurd (inSuf q (hb.2 q rfl).1 (hb.2 q rfl).2.1) List.not_mem_nil
  | cons h t =>
    have sh := sufBh h List.mem_cons_self
    cases b with
    | none => exact absurd sh.2 (hb.1 rfl h sh.1)
    | some q =>
      have bq := hb.2 q rfl
      have a := bq.2.2 h sh.1 sh.2
      have m := inSuf q bq.1 bq.2.1
      rw [List.mem_cons] at m
      rcases m with m | m
      · rw [m]; rfl
      · have pw := hcl.2
        rw [List.pairwise_append, List.pairwise_cons] at pw
        have := pw.2.1.1 q m
        omega
