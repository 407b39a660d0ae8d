/-! call -/
def R_calls (d W C : Nat) (sg cs cn cw cN cm cY ord : Nat → Nat) (ca_skill ca_days ca_wanted ca_named ca_minute ca_day ca_refusers ca_order : Nat → Int32) (ca_size : Int32) (mm_callSkill mm_callDays mm_callWanted mm_callName mm_callMinute mm_callDay mm_refuses : Nat → Int32) (mm_calls : Int32) : Prop :=
  (C ≤ 60 ∧ ca_size = nI C ∧ mm_calls = nI C) ∧ (rw_ C ca_skill cs ∧ rw_ C mm_callSkill cs ∧ ∀ k, k < C → cs k < 8) ∧ (rw_ C ca_days cn ∧ rw_ C mm_callDays cn ∧ ∀ k, k < C → 1 ≤ cn k ∧ cn k ≤ 30) ∧ (rw_ C ca_wanted cw ∧ rw_ C mm_callWanted cw ∧ ∀ k, k < C → 1 ≤ cw k ∧ cw k ≤ 9)
  ∧ ((∀ k, k < C → ca_named k = sv (cN k) ∧ mm_callName k = sv (cN k)) ∧ ∀ k, k < C → cN k = 1000 ∨ (cN k < W ∧ sg (cN k) ≤ cY k)) ∧ (rw_ C ca_minute cm ∧ rw_ C mm_callMinute cm ∧ ∀ k, k < C → cm k < 600) ∧ (rw_ C ca_day cY ∧ rw_ C mm_callDay cY ∧ ∀ k, k < C → cY k ≤ d)
  ∧ ((∀ k, k < C → ca_refusers k = mm_refuses k) ∧ ∀ k, C ≤ k → k < 60 → ca_refusers k = 0) ∧ (rw_ C ca_order ord ∧ R_ord C cY cm ord)
theorem ap_all {n v : Nat} {g : Nat → Nat} {Q : Nat → Prop} (h : ∀ k, k < n → Q (g k)) (hv : Q v) : ∀ k, k < n + 1 → Q (ap g n v k) := fun k hk => by
  by_cases e : k = n
  · rw [e, ap_s]; exact hv
  · rw [ap_n e]; exact h k (by omega)
theorem call_core {d W C a1 a2 a3 a4 a5 : Nat} {sg cs cn cw cN cm cY ord : Nat → Nat} {ca_skill ca_days ca_wanted ca_named ca_minute ca_day ca_refusers ca_order : Nat → Int32} {ca_size : Int32} {mm_callSkill mm_callDays mm_callWanted mm_callName mm_callMinute mm_callDay mm_refuses : Nat → Int32} {mm_calls : Int32}
    (hR : R_calls d W C sg cs cn cw cN cm cY ord ca_skill ca_days ca_wanted ca_named ca_minute ca_day ca_refusers ca_order ca_size mm_callSkill mm_callDays mm_callWanted mm_callName mm_callMinute mm_callDay mm_refuses mm_calls)
    (hC : C < 60) (hd : d < 100) (b1 : a1 < 8) (b2 : 1 ≤ a2 ∧ a2 ≤ 30) (b3 : 1 ≤ a3 ∧ a3 ≤ 9) (b4 : a4 = 1000 ∨ (a4 < W ∧ sg a4 ≤ d)) (b5 : a5 < 600)
    {K : Int32 → (Nat → Int32) → (Nat → Int32) → (Nat → Int32) → (Nat → Int32) → (Nat → Int32) → (Nat → Int32) → (Nat → Int32) → Int32 → Prop}
    (hK : ∀ (x : Nat) (o : Nat → Int32), x ≤ C → (∀ i, i < C → cY i < d → i < x) → R_calls d W (C + 1) sg (ap cs C a1) (ap cn C a2) (ap cw C a3) (ap cN C a4) (ap cm C a5) (ap cY C d) (ins ord x C) (upd ca_skill C (nI a1)) (upd ca_days C (nI a2)) (upd ca_wanted C (nI a3)) (upd ca_named C (sv a4)) (upd ca_minute C (nI a5)) (upd ca_day C (nI d)) ca_refusers o (nI (C + 1)) (upd mm_callSkill C (nI a1)) (upd mm_callDays C (nI a2)) (upd mm_callWanted C (nI a3)) (upd mm_callName C (sv a4)) (upd mm_callMinute C (nI a5)) (upd mm_callDay C (nI d)) (upd mm_refuses C 0) (nI (C + 1)) →
      K (nI C) (upd ca_skill C (nI a1)) (upd ca_days C (nI a2)) (upd ca_wanted C (nI a3)) (upd ca_named C (sv a4)) (upd ca_minute C (nI a5)) (upd ca_day C (nI d)) o (nI (C + 1))) :
    wp_X0_add ca_skill ca_days ca_wanted ca_named ca_minute ca_day ca_order ca_size (nI a1) (nI a2) (nI a3) (sv a4) (nI a5) (nI d) K := by
  obtain ⟨⟨r0, rfl, rfl⟩, ⟨r1, r1', r1''⟩, ⟨r2, r2', r2''⟩, ⟨r3, r3', r3''⟩, ⟨r4, r4'⟩, ⟨r5, r5', r5''⟩, ⟨r6, r6', r6''⟩, ⟨r7, r7'⟩, r8, r9⟩ := hR
  unfold wp_X0_add wp_X0_enterOrder
  rw [nI_clamp (n := C) (by omega)]
  have v := vp_in_nI (N := 60) hC (by omega)
  refine ⟨v, v, v, v, v, v, C + 1, enter_c hC r9 r6'' hd r5'' b5 (rw_ap r5) (rw_ap r6) (fun x f hx hf ho => ?_) C ca_order (Nat.le_refl _) (fun k h1 h2 => by omega) (fun k hk => r8 k hk) (fun k h1 h2 => by omega)⟩
  rintro _ rfl
  rw [nI_1]
  refine hK x f hx (fun i hi hiy => ?_) ⟨⟨by omega, rfl, rfl⟩, ⟨rw_ap r1, rw_ap r1', ap_all (Q := fun v => v < 8) r1'' b1⟩, ⟨rw_ap r2, rw_ap r2', ap_all (Q := fun v => 1 ≤ v ∧ v ≤ 30) r2'' b2⟩, ⟨rw_ap r3, rw_ap r3', ap_all (Q := fun v => 1 ≤ v ∧ v ≤ 9) r3'' b3⟩, ⟨fun k hk => ?_, fun k hk => ?_⟩, ⟨rw_ap r5, rw_ap r5', ap_all (Q := fun v => v < 600) r5'' b5⟩, ⟨rw_ap r6, rw_ap r6', ap_all (Q := fun v => v ≤ d) r6'' (Nat.le_refl _)⟩, ⟨fun k hk => ?_, fun k h1 h2 => r7' k (by omega) h2⟩, hf, ho⟩
  · by_cases c : i < x
    · exact c
    · have q := ho.2.1 x (by omega)
      rw [ins_eq, ap_s] at q
      have q2 := ho.2.2.2.2 x i (by omega) (by omega)
      rw [← q, ap_n (by omega)] at q2
      omega
  · by_cases e : k = C
    · rw [e, ap_s, pk_us, pk_us]; exact ⟨rfl, rfl⟩
    · rw [ap_n e, pk_un e, pk_un e]; exact r4 k (by omega)
  · by_cases e : k = C
    · rw [e, ap_s, ap_s]; exact b4
    · rw [ap_n e, ap_n e]; exact r4' k (by omega)
  · by_cases e : k = C
    · rw [e, pk_us]; exact r7' C (by omega) (by omega)
    · rw [pk_un e]; exact r7 k (by omega)
theorem rng1 (n : Nat) (x : Int32) (hn : n + 1 < 2147483648) : x < 1 ∨ (¬ x < 1 ∧ nI n < x) ∨ ∃ j, 1 ≤ j ∧ j ≤ n ∧ x = nI j ∧ ¬ x < 1 ∧ ¬ nI n < x := by
  by_cases h : x < 1
  · exact Or.inl h
  · rcases come n x hn with a | ⟨-, a, -⟩ | ⟨j, hj, e, a, b, -⟩
    · exfalso; apply h; rw [i_lt] at a ⊢; rw [show (1 : Int32).toInt = 1 from by decide]; rw [show (0 : Int32).toInt = 0 from by decide] at a; omega
    · exact Or.inr (Or.inl ⟨h, a⟩)
    · refine Or.inr (Or.inr ⟨j, ?_, hj, e, h, b⟩)
      by_cases c : j = 0
      · subst c; rw [e] at h; exact absurd (show nI 0 < 1 by decide) h
      · omega
theorem p_call {d W C : Nat} {sg cs cn cw cN cm cY ord : Nat → Nat} {ca_skill ca_days ca_wanted ca_named ca_minute ca_day ca_refusers ca_order : Nat → Int32} {ca_size cr_size : Int32} {mm_callSkill mm_callDays mm_callWanted mm_callName mm_callMinute mm_callDay mm_refuses : Nat → Int32} {mm_calls mm_workers hh_today mm_today mm_thrown x1 x2 x3 x4 x5 : Int32}
    {P : (Nat → Int32) → (Nat → Int32) → (Nat → Int32) → (Nat → Int32) → (Nat → Int32) → (Nat → Int32) → (Nat → Int32) → Int32 → Int32 → (Nat → Int32) → (Nat → Int32) → (Nat → Int32) → (Nat → Int32) → (Nat → Int32) → (Nat → Int32) → (Nat → Int32) → Int32 → Prop}
    (hR : R_calls d W C sg cs cn cw cN cm cY ord ca_skill ca_days ca_wanted ca_named ca_minute ca_day ca_refusers ca_order ca_size mm_callSkill mm_callDays mm_callWanted mm_callName mm_callMinute mm_callDay mm_refuses mm_calls)
    (hW : W ≤ 16) (w1 : cr_size = nI W) (w2 : mm_workers = nI W) (hsg : ∀ w, w < W → sg w ≤ d) (hd : d < 100) (e1 : hh_today = nI d) (e2 : mm_today = nI d)
    (h0 : P ca_skill ca_days ca_wanted ca_named ca_minute ca_day ca_order ca_size 0 mm_callSkill mm_callDays mm_callWanted mm_callName mm_callMinute mm_callDay mm_refuses mm_calls)
    (hP : ∀ (a1 a2 a3 a4 a5 x : Nat) (f1 f2 f3 f4 f5 f6 f7 g1 g2 g3 g4 g5 g6 g7 : Nat → Int32), C < 60 → x ≤ C → (∀ i, i < C → cY i < d → i < x) → (∀ k, k < C → g7 k = mm_refuses k) → R_calls d W (C + 1) sg (ap cs C a1) (ap cn C a2) (ap cw C a3) (ap cN C a4) (ap cm C a5) (ap cY C d) (ins ord x C) f1 f2 f3 f4 f5 f6 ca_refusers f7 (nI (C + 1)) g1 g2 g3 g4 g5 g6 g7 (nI (C + 1)) →
      P f1 f2 f3 f4 f5 f6 f7 (nI (C + 1)) 0 g1 g2 g3 g4 g5 g6 g7 (nI (C + 1))) :
    wp_X7_call hh_today cr_size ca_skill ca_days ca_wanted ca_named ca_minute ca_day ca_order ca_size x1 x2 x3 x4 x5
      (fun r f1 f2 f3 f4 f5 f6 f7 n => wp_X8_call mm_thrown mm_today mm_workers mm_callSkill mm_callDays mm_callWanted mm_callName mm_callMinute mm_callDay mm_refuses mm_calls x1 x2 x3 x4 x5
        (fun q t g1 g2 g3 g4 g5 g6 g7 m => r = q ∧ P f1 f2 f3 f4 f5 f6 f7 n t g1 g2 g3 g4 g5 g6 g7 m)) := by
  subst w1 w2 e1 e2
  have hR0 := hR
  obtain ⟨⟨r0, rfl, rfl⟩, -⟩ := hR0
  unfold wp_X7_call wp_X8_call
  simp only [isBelow_iff, isWorker_iff]
  rcases rng 7 x1 (by omega) with h | ⟨h, h', h''⟩ | ⟨a1, ha1, q1, b1, b2, b3⟩
  · simp only [h, true_implies, not_true_eq_false, not_false_eq_true, false_implies, and_true, true_and, true_or, one0]
    first | exact h0 | exact ⟨trivial, h0⟩ | exact ⟨rfl, h0⟩ | exact ⟨fun _ => h0, fun q => absurd rfl q⟩
  · have c1 : (8 : Int32) ≤ x1 := h'
    have c2 : (7 : Int32) < x1 := h''
    simp only [h, c1, c2, true_implies, not_true_eq_false, not_false_eq_true, false_implies, and_true, true_and, or_true, one0]
    first | exact h0 | exact ⟨trivial, h0⟩ | exact ⟨rfl, h0⟩ | exact ⟨fun _ => h0, fun q => absurd rfl q⟩
  have c1 : ¬ (8 : Int32) ≤ x1 := b2
  have c2 : ¬ (7 : Int32) < x1 := b3
  simp only [b1, c1, c2, true_implies, not_true_eq_false, not_false_eq_true, false_implies, and_true, true_and, or_self, one0]
  rcases rng1 30 x2 (by omega) with h | ⟨h, h'⟩ | ⟨a2, ha2, ha2', q2, b4, b5⟩
  · simp only [h, true_implies, not_true_eq_false, not_false_eq_true, false_implies, and_true, true_and]
    first | exact h0 | exact ⟨trivial, h0⟩ | exact ⟨rfl, h0⟩ | exact ⟨fun _ => h0, fun q => absurd rfl q⟩
  · have c3 : (30 : Int32) < x2 := h'
    simp only [h, c3, true_implies, not_true_eq_false, not_false_eq_true, false_implies, and_true, true_and]
    first | exact h0 | exact ⟨trivial, h0⟩ | exact ⟨rfl, h0⟩ | exact ⟨fun _ => h0, fun q => absurd rfl q⟩
  have c3 : ¬ (30 : Int32) < x2 := b5
  simp only [b4, c3, true_implies, not_true_eq_false, not_false_eq_true, false_implies, and_true, true_and]
  rcases rng1 9 x3 (by omega) with h | ⟨h, h'⟩ | ⟨a3, ha3, ha3', q3, b6, b7⟩
  · simp only [h, true_implies, not_true_eq_false, not_false_eq_true, false_implies, and_true, true_and]
    first | exact h0 | exact ⟨trivial, h0⟩ | exact ⟨rfl, h0⟩ | exact ⟨fun _ => h0, fun q => absurd rfl q⟩
  · have c4 : (9 : Int32) < x3 := h'
    simp only [h, c4, true_implies, not_true_eq_false, not_false_eq_true, false_implies, and_true, true_and]
    first | exact h0 | exact ⟨trivial, h0⟩ | exact ⟨rfl, h0⟩ | exact ⟨fun _ => h0, fun q => absurd rfl q⟩
  have c4 : ¬ (9 : Int32) < x3 := b7
  simp only [b6, c4, true_implies, not_true_eq_false, not_false_eq_true, false_implies, and_true, true_and]
  -- what is left once the name is sound
  have rest : ∀ a4, (a4 = 1000 ∨ a4 < W) → x4 = sv a4 → wp_X7_call_b52 (fun r f1 f2 f3 f4 f5 f6 f7 n => (x4 = -1 → wp_X8_call_b52 (fun q t g1 g2 g3 g4 g5 g6 g7 m => r = q ∧ P f1 f2 f3 f4 f5 f6 f7 n t g1 g2 g3 g4 g5 g6 g7 m) (nI d) mm_callSkill mm_callDays mm_callWanted mm_callName mm_callMinute mm_callDay mm_refuses (nI C) x1 x2 x3 x4 x5 0) ∧ (¬ x4 = -1 → (x4 < 0 ∨ nI W ≤ x4 → r = -1 ∧ P f1 f2 f3 f4 f5 f6 f7 n 0 mm_callSkill mm_callDays mm_callWanted mm_callName mm_callMinute mm_callDay mm_refuses (nI C)) ∧ (¬ (x4 < 0 ∨ nI W ≤ x4) → wp_X8_call_b52 (fun q t g1 g2 g3 g4 g5 g6 g7 m => r = q ∧ P f1 f2 f3 f4 f5 f6 f7 n t g1 g2 g3 g4 g5 g6 g7 m) (nI d) mm_callSkill mm_callDays mm_callWanted mm_callName mm_callMinute mm_callDay mm_refuses (nI C) x1 x2 x3 x4 x5 0))) (nI d) ca_skill ca_days ca_wanted ca_named ca_minute ca_day ca_order (nI C) x1 x2 x3 x4 x5 := by
    intro a4 h4 q4
    have nb : ¬ (¬ x4 = -1 ∧ (x4 < 0 ∨ nI W ≤ x4)) := by
      rintro ⟨z1, z2⟩
      rcases h4 with e | e
      · apply z1; rw [q4, e]; rfl
      · rw [sv_ne (by omega)] at q4
        rw [q4] at z2
        rcases z2 with z | z
        · exact nI_nlt (a := a4) (b := 0) (by omega) (by omega) z
        · rw [i_le, i_lit (by omega), i_lit (by omega)] at z; omega
    suffices hs : wp_X7_call_b52 (fun r f1 f2 f3 f4 f5 f6 f7 n => wp_X8_call_b52 (fun q t g1 g2 g3 g4 g5 g6 g7 m => r = q ∧ P f1 f2 f3 f4 f5 f6 f7 n t g1 g2 g3 g4 g5 g6 g7 m) (nI d) mm_callSkill mm_callDays mm_callWanted mm_callName mm_callMinute mm_callDay mm_refuses (nI C) x1 x2 x3 x4 x5 0) (nI d) ca_skill ca_days ca_wanted ca_named ca_minute ca_day ca_order (nI C) x1 x2 x3 x4 x5 by
      have e : (fun r f1 f2 f3 f4 f5 f6 f7 n => (x4 = -1 → wp_X8_call_b52 (fun q t g1 g2 g3 g4 g5 g6 g7 m => r = q ∧ P f1 f2 f3 f4 f5 f6 f7 n t g1 g2 g3 g4 g5 g6 g7 m) (nI d) mm_callSkill mm_callDays mm_callWanted mm_callName mm_callMinute mm_callDay mm_refuses (nI C) x1 x2 x3 x4 x5 0) ∧ (¬ x4 = -1 → (x4 < 0 ∨ nI W ≤ x4 → r = -1 ∧ P f1 f2 f3 f4 f5 f6 f7 n 0 mm_callSkill mm_callDays mm_callWanted mm_callName mm_callMinute mm_callDay mm_refuses (nI C)) ∧ (¬ (x4 < 0 ∨ nI W ≤ x4) → wp_X8_call_b52 (fun q t g1 g2 g3 g4 g5 g6 g7 m => r = q ∧ P f1 f2 f3 f4 f5 f6 f7 n t g1 g2 g3 g4 g5 g6 g7 m) (nI d) mm_callSkill mm_callDays mm_callWanted mm_callName mm_callMinute mm_callDay mm_refuses (nI C) x1 x2 x3 x4 x5 0))) = (fun (r : Int32) f1 f2 f3 f4 f5 f6 f7 n => wp_X8_call_b52 (fun q t g1 g2 g3 g4 g5 g6 g7 m => r = q ∧ P f1 f2 f3 f4 f5 f6 f7 n t g1 g2 g3 g4 g5 g6 g7 m) (nI d) mm_callSkill mm_callDays mm_callWanted mm_callName mm_callMinute mm_callDay mm_refuses (nI C) x1 x2 x3 x4 x5 0) := by
        funext r f1 f2 f3 f4 f5 f6 f7 n
        apply propext
        constructor
        · intro h
          by_cases z : x4 = -1
          · exact h.1 z
          · exact (h.2 z).2 (fun w => nb ⟨z, w⟩)
        · intro h
          exact ⟨fun _ => h, fun z => ⟨fun w => absurd ⟨z, w⟩ nb, fun _ => h⟩⟩
      rw [e]; exact hs
    unfold wp_X7_call_b52 wp_X8_call_b52
    rw [isBelow_iff]
    rcases rng 599 x5 (by omega) with h | ⟨h, h', h''⟩ | ⟨a5, ha5, q5, b8, b9, b10⟩
    · simp only [h, true_implies, not_true_eq_false, not_false_eq_true, false_implies, and_true, true_and, true_or]
      first | exact h0 | exact ⟨trivial, h0⟩ | exact ⟨rfl, h0⟩ | exact ⟨fun _ => h0, fun q => absurd rfl q⟩
    · have c1 : (600 : Int32) ≤ x5 := h'
      have c2 : (599 : Int32) < x5 := h''
      simp only [h, c1, c2, true_implies, not_true_eq_false, not_false_eq_true, false_implies, and_true, true_and, or_true]
      first | exact h0 | exact ⟨trivial, h0⟩ | exact ⟨rfl, h0⟩ | exact ⟨fun _ => h0, fun q => absurd rfl q⟩
    have c5 : ¬ (600 : Int32) ≤ x5 := b9
    have c6 : ¬ (599 : Int32) < x5 := b10
    by_cases hC : C = 60
    · have z1 : ¬ nI C < 60 := nI_nlt (a := C) (b := 60) (by omega) (by omega)
      have z2 : nI C = 60 := by rw [hC]; rfl
      simp only [b8, c5, c6, z1, true_implies, not_true_eq_false, not_false_eq_true, false_implies, and_true, true_and, or_self]
      refine ⟨fun q => absurd q one0, fun _ => ⟨fun q => absurd z2 q, fun _ => h0⟩⟩
    have z1 : nI C < 60 := nI_lt (a := C) (b := 60) (by omega) (by omega)
    have z2 : ¬ nI C = 60 := fun q => by have := (nI_eq (a := C) (b := 60) (by omega) (by omega)).mp q; omega
    simp only [b8, c5, c6, z1, z2, true_implies, not_true_eq_false, not_false_eq_true, false_implies, and_true, true_and, or_self]
    refine ⟨fun q => absurd q one0, fun _ => ?_⟩
    rw [q1, q2, q3, q4, q5]
    refine call_core hR (by omega) hd (by omega) ⟨ha2, ha2'⟩ ⟨ha3, ha3'⟩ (h4.elim Or.inl (fun w => Or.inr ⟨w, hsg a4 w⟩)) (by omega) (fun x o hx hxi hR' => ?_)
    have v := vp_in_nI (N := 60) (show C < 60 by omega) (by omega)
    refine ⟨v, v, v, v, v, v, v, ?_⟩
    rintro _ rfl
    rw [nI_1, nI_clamp (n := C) (by omega)]
    refine ⟨by rw [show (1 : Int32) = nI 1 from rfl, pk_sub (by omega)]; rfl, ?_⟩
    exact hP a1 a2 a3 a4 a5 x _ _ _ _ _ _ _ _ _ _ _ _ _ _ (by omega) hx hxi (fun k hk => pk_un (by omega)) hR'
  by_cases z : x4 = -1
  · have := rest 1000 (Or.inl rfl) z
    refine ⟨fun _ => this, fun q => absurd z q⟩
  · refine ⟨fun q => absurd q z, fun _ => ?_⟩
    rcases pk_ix x4 (n := W) (by omega) with g | g | ⟨a4, ha4, e⟩
    · have : x4 < 0 ∨ nI W ≤ x4 := Or.inl g
      refine ⟨fun _ => ⟨fun q => absurd q z, fun _ => ⟨fun _ => h0, fun q => absurd this q⟩⟩, fun q => absurd this q⟩
    · have : x4 < 0 ∨ nI W ≤ x4 := Or.inr g
      refine ⟨fun _ => ⟨fun q => absurd q z, fun _ => ⟨fun _ => h0, fun q => absurd this q⟩⟩, fun q => absurd this q⟩
    · have := rest a4 (Or.inr ha4) (by rw [e, sv_ne (by omega)])
      refine ⟨fun q => ?_, fun _ => this⟩
      exfalso
      rw [e] at q
      rcases q with q | q
      · exact nI_nlt (a := a4) (b := 0) (by omega) (by omega) q
      · rw [i_le, i_lit (by omega), i_lit (by omega)] at q; omega
