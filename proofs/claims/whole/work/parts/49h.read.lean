/-! a whole text -/
theorem restS_ok {tb : Nat → Nat} {N p key ln : Nat} {t : Nat × Nat × Nat × Nat} {sy : Nat → Nat} (ho : okT N t) (hp : p < N) (hk : key < 8) (hs : sy_ok sy) :
    (restS tb N p key t sy ln).1 ≤ 3 ∧ (restS tb N p key t sy ln).2.1 ≤ N ∧ ((restS tb N p key t sy ln).1 = 0 → okT N (restS tb N p key t sy ln).2.2.1 ∧ t.2.1 < (restS tb N p key t sy ln).2.2.1.2.1 ∧ sy_ok (restS tb N p key t sy ln).2.2.2.1 ∧ (restS tb N p key t sy ln).2.2.2.2 = ln + 1) := by
  have o1 := tokS_ok (tb := tb) ho.1
  have o2 := tokS_ok (tb := tb) o1.1.1
  have b1 := ho.2.1
  have b2 := o1.1.2.1
  have b3 := o1.1.1
  have b4 := ho.1
  have hm : mstN key ≤ 999 := by unfold mstN; split <;> omega
  unfold restS
  by_cases c1 : t.1 ≠ 2
  · rw [if_pos c1]; exact ⟨by simp, by show t.2.1 ≤ N; omega, fun q => absurd q (by simp)⟩
  rw [if_neg c1]
  by_cases c2 : mstN key < t.2.2.2
  · rw [if_pos c2]; exact ⟨by simp, by show t.2.1 ≤ N; omega, fun q => absurd q (by simp)⟩
  rw [if_neg c2]
  by_cases c3 : sy key ≠ 1000
  · rw [if_pos c3]; exact ⟨by simp, by show p ≤ N; omega, fun q => absurd q (by simp)⟩
  rw [if_neg c3]
  by_cases c4 : (tokS tb N t.2.2.1).1 ≠ 3
  · rw [if_pos c4]; exact ⟨by simp, by show (tokS tb N t.2.2.1).2.1 ≤ N; omega, fun q => absurd q (by simp)⟩
  rw [if_neg c4]
  refine ⟨Nat.zero_le _, Nat.zero_le _, fun _ => ⟨o2.1, ?_, fun k hk2 => ?_, rfl⟩⟩
  · show t.2.1 < (tokS tb N (tokS tb N t.2.2.1).2.2.1).2.1
    have := o2.2
    have := o1.2
    have := o1.1.2.2.1 (by omega)
    omega
  · show ap sy key t.2.2.2 k ≤ 1000
    by_cases w : k = key
    · rw [w, ap_s]; omega
    · rw [ap_n w]; exact hs k hk2
theorem lineS_ok {tb : Nat → Nat} {N ln : Nat} {t : Nat × Nat × Nat × Nat} {sy : Nat → Nat} (ho : okT N t) (hs : sy_ok sy) :
    (lineS tb N t sy ln).1 ≤ 3 ∧ (lineS tb N t sy ln).2.1 ≤ N ∧ ((lineS tb N t sy ln).1 = 0 → okT N (lineS tb N t sy ln).2.2.1 ∧ t.2.1 < (lineS tb N t sy ln).2.2.1.2.1 ∧ sy_ok (lineS tb N t sy ln).2.2.2.1 ∧ (lineS tb N t sy ln).2.2.2.2 = ln + 1) := by
  have o1 := tokS_ok (tb := tb) ho.1
  have o2 := tokS_ok (tb := tb) o1.1.1
  have b1 := ho.2.1
  have b2 := o1.1.2.1
  have b3 := o1.1.1
  have b4 := ho.1
  have b5 := o1.2
  have b6 := o2.2
  unfold lineS
  by_cases c1 : t.1 ≠ 1
  · rw [if_pos c1]; exact ⟨by simp, by show t.2.1 ≤ N; omega, fun q => absurd q (by simp)⟩
  rw [if_neg c1]
  have b7 := ho.2.2.1 (by omega)
  have b8 := ho.2.2.2.1 (by omega)
  by_cases c2 : t.2.2.2 = 5
  · rw [if_pos c2]
    by_cases c3 : (tokS tb N t.2.2.1).1 ≠ 2
    · rw [if_pos c3]; exact ⟨by show (1 : Nat) ≤ 3; omega, by show (tokS tb N t.2.2.1).2.1 ≤ N; omega, fun q => absurd q (show ¬ (1 : Nat) = 0 by omega)⟩
    rw [if_neg c3]
    by_cases c4 : 2 < (tokS tb N t.2.2.1).2.2.2
    · rw [if_pos c4]; exact ⟨by show (2 : Nat) ≤ 3; omega, by show (tokS tb N t.2.2.1).2.1 ≤ N; omega, fun q => absurd q (show ¬ (2 : Nat) = 0 by omega)⟩
    rw [if_neg c4]
    have := restS_ok (tb := tb) (p := t.2.1) (key := 5 + (tokS tb N t.2.2.1).2.2.2) (ln := ln) o2.1 (by omega) (by omega) hs
    exact ⟨this.1, this.2.1, fun q => ⟨(this.2.2 q).1, by have := (this.2.2 q).2.1; omega, (this.2.2 q).2.2⟩⟩
  · rw [if_neg c2]
    have := restS_ok (tb := tb) (p := t.2.1) (key := t.2.2.2) (ln := ln) o1.1 (by omega) (by omega) hs
    exact ⟨this.1, this.2.1, fun q => ⟨(this.2.2 q).1, by have := (this.2.2 q).2.1; omega, (this.2.2 q).2.2⟩⟩
noncomputable def readS (tb : Nat → Nat) (N : Nat) : Nat → (Nat × Nat × Nat × Nat) → (Nat → Nat) → Nat → Nat × Nat × (Nat → Nat) × Nat
  | 0, _, sy, ln => (0, 0, sy, ln)
  | m + 1, t, sy, ln => if t.1 = 0 then (0, 0, sy, ln) else if (lineS tb N t sy ln).1 ≠ 0 then ((lineS tb N t sy ln).1, (lineS tb N t sy ln).2.1, sy, ln) else readS tb N m (lineS tb N t sy ln).2.2.1 (lineS tb N t sy ln).2.2.2.1 (lineS tb N t sy ln).2.2.2.2
def fpI (r : Nat × Nat × (Nat → Nat) × Nat) : Int32 := if r.1 = 0 then -1 else nI r.2.1
theorem fp_of {r : Nat × Nat × (Nat × Nat × Nat × Nat) × (Nat → Nat) × Nat} {s : Nat → Nat} {l : Nat} {fp : Int32} (h : r.1 ≠ 0 → fp = nI r.2.1) (q : r.1 ≠ 0) : fp = fpI (r.1, r.2.1, s, l) := by
  unfold fpI; rw [if_neg q]; exact h q
theorem read_c {L N : Nat} {tb : Nat → Nat} {f g : Nat → Int32} {K : (Nat → Int32) → Int32 → Int32 → Int32 → Int32 → Int32 → Int32 → Int32 → Int32 → Prop} (hR : R_text L N tb f g) :
    ∀ (m i ln : Nat) (t : Nat × Nat × Nat × Nat) (sy : Nat → Nat) (a : Nat → Int32) (pl kd st v : Int32), i + m = N → i ≤ t.2.1 → okT N t → TokC t pl kd st v → sy_ok sy → (∀ k, k < 8 → a k = sv (sy k)) →
    (∀ a' l' pl' kd' st' v', ((readS tb N m t sy ln).1 = 0 → (∀ k, k < 8 → a' k = sv ((readS tb N m t sy ln).2.2.1 k)) ∧ l' = nI (readS tb N m t sy ln).2.2.2) → K a' l' (nI (readS tb N m t sy ln).1) (fpI (readS tb N m t sy ln)) (nI N) pl' kd' st' v') →
    wp_X3_read_b39 K f (nI L) (m + 1) a (nI ln) 0 (-1) (nI N) pl kd st v (nI i) := by
  have hNN : N ≤ 800 := by obtain ⟨h1, h2, -⟩ := hR; omega
  intro m
  induction m with
  | zero =>
    intro i ln t sy a pl kd st v hi hit ho hT hs ha hK
    rw [wp_X3_read_b39]
    refine pk_le N i (fun _ => ?_) (fun h => by omega)
    exact hK _ _ _ _ _ _ (fun _ => ⟨ha, rfl⟩)
  | succ m ih =>
    intro i ln t sy a pl kd st v hi hit ho hT hs ha hK
    rw [wp_X3_read_b39]
    refine pk_le N i (fun h => by omega) (fun _ => ?_)
    have hkd := hT.2.1
    have h4 := ho.2.2.2.2.2
    refine pk_eq (x := kd) (y := 0) t.1 0 (fun e => ?_) (fun e => ?_) (hx := hkd)
    · rw [readS, if_pos e] at hK
      exact hK _ _ _ _ _ _ (fun _ => ⟨ha, rfl⟩)
    · refine ⟨fun q => absurd rfl q, fun _ => line_c hR hT ho hs ha (fun a' l' f' fp' pl' kd' st' v' h => ?_)⟩
      have lo := lineS_ok (tb := tb) (ln := ln) ho hs
      rw [readS, if_neg e] at hK
      rintro _ rfl
      obtain ⟨q1, q2, q3⟩ := h
      by_cases c : (lineS tb N t sy ln).1 = 0
      · rw [if_neg (by omega)] at hK
        obtain ⟨rfl, z2, z3, rfl⟩ := q3 c
        rw [c] at q1
        subst q1
        have lo3 := lo.2.2 c
        rw [nI_1]
        exact ih (i + 1) _ _ _ _ _ _ _ _ (by omega) (by omega) lo3.1 z2 lo3.2.2.1 z3 hK
      · rw [if_pos c] at hK
        have := hK a' l' pl' kd' st' v' (fun q => absurd q c)
        rw [← q1, ← fp_of q2 c] at this
        obtain ⟨m', hm'⟩ : ∃ m', m + 1 = m' + 1 := ⟨m, rfl⟩
        rw [wp_X3_read_b39]
        refine ⟨fun _ => this, fun _ => ⟨fun _ => this, fun _ => ⟨fun _ => this, fun q => ?_⟩⟩⟩
        rw [q1] at q
        exact absurd ((nI_eq (by omega) (by omega)).mp (q.trans (show (0 : Int32) = nI 0 from rfl))) c
theorem parses_r {L N : Nat} {tb : Nat → Nat} {f g a0 : Nat → Int32} {K : (Nat → Int32) → Int32 → Int32 → Int32 → Int32 → Int32 → Int32 → Int32 → Prop} (hR : R_text L N tb f g) :
    ∀ (m i ln : Nat) (t : Nat × Nat × Nat × Nat) (sy : Nat → Nat) (a : Nat → Int32) (at_ pl so v : Int32), i + m = N → i ≤ t.2.1 → okT N t → TokR t at_ pl so v → sy_ok sy → (∀ k, k < 80 → a k = a0 k) → (∀ k, k < 8 → a (80 + k) = sv (sy k)) →
    (∀ a' at' pl' so' v' l', (∀ k, k < 80 → a' k = a0 k) → ((readS tb N m t sy ln).1 = 0 → (∀ k, k < 8 → a' (80 + k) = sv ((readS tb N m t sy ln).2.2.1 k)) ∧ l' = nI (readS tb N m t sy ln).2.2.2) → K a' at' pl' so' v' (nI (readS tb N m t sy ln).1) (fpI (readS tb N m t sy ln)) l') →
    wp_X8_parses_b48 K g (nI N) (m + 1) a at_ pl so v 0 (-1) (nI ln) := by
  have hNN : N ≤ 800 := by obtain ⟨h1, h2, -⟩ := hR; omega
  intro m
  induction m with
  | zero =>
    intro i ln t sy a at_ pl so v hi hit ho hT hs ha0 ha hK
    rw [wp_X8_parses_b48]
    have e : t.1 = 0 := by
      by_cases c : t.1 = 0
      · exact c
      · have := ho.2.2.1 c
        have := ho.1
        omega
    refine ⟨fun q => absurd rfl q, fun _ => sort_r (j := 0) hT (by omega) (by omega) (fun _ => ?_) (fun q => absurd e q)⟩
    exact hK _ _ _ _ _ _ ha0 (fun _ => ⟨ha, rfl⟩)
  | succ m ih =>
    intro i ln t sy a at_ pl so v hi hit ho hT hs ha0 ha hK
    rw [wp_X8_parses_b48]
    have h4 := ho.2.2.2.2.2
    refine ⟨fun q => absurd rfl q, fun _ => sort_r (j := 0) hT (by omega) (by omega) (fun e => ?_) (fun e => ?_)⟩
    · rw [readS, if_pos e] at hK
      exact hK _ _ _ _ _ _ ha0 (fun _ => ⟨ha, rfl⟩)
    · refine line_r hR hT ho hs ha0 ha (fun a' at' pl' so' v' f' fp' l' h => ?_)
      have lo := lineS_ok (tb := tb) (ln := ln) ho hs
      rw [readS, if_neg e] at hK
      obtain ⟨q1, q2, q4, q3⟩ := h
      by_cases c : (lineS tb N t sy ln).1 = 0
      · rw [if_neg (by omega)] at hK
        obtain ⟨rfl, z2, z3, rfl⟩ := q3 c
        rw [c] at q1
        subst q1
        have lo3 := lo.2.2 c
        exact ih (i + 1) _ _ _ _ _ _ _ _ (by omega) (by omega) lo3.1 z2 lo3.2.2.1 q4 z3 hK
      · rw [if_pos c] at hK
        have := hK a' at' pl' so' v' l' q4 (fun q => absurd q c)
        rw [← q1, ← fp_of q2 c] at this
        rw [wp_X8_parses_b48]
        refine ⟨fun _ => this, fun q => ?_⟩
        rw [q1] at q
        exact absurd ((nI_eq (by omega) (by omega)).mp (q.trans (show (0 : Int32) = nI 0 from rfl))) c
theorem readS_ok {tb : Nat → Nat} {N : Nat} : ∀ {m : Nat} {t : Nat × Nat × Nat × Nat} {sy : Nat → Nat} {ln : Nat}, okT N t → sy_ok sy → (readS tb N m t sy ln).1 ≤ 3 ∧ (readS tb N m t sy ln).2.1 ≤ N ∧ sy_ok (readS tb N m t sy ln).2.2.1
  | 0, t, sy, ln, _, hs => ⟨Nat.zero_le _, Nat.zero_le _, hs⟩
  | m + 1, t, sy, ln, ho, hs => by
    have lo := lineS_ok (tb := tb) (ln := ln) ho hs
    rw [readS]
    by_cases c1 : t.1 = 0
    · rw [if_pos c1]; exact ⟨Nat.zero_le _, Nat.zero_le _, hs⟩
    · rw [if_neg c1]
      by_cases c2 : (lineS tb N t sy ln).1 = 0
      · rw [if_neg (by omega)]
        exact readS_ok (lo.2.2 c2).1 (lo.2.2 c2).2.2.1
      · rw [if_pos c2]; exact ⟨lo.1, lo.2.1, hs⟩
