/-! vote -/
theorem pclear_r {L N : Nat} {g : Nat → Int32} {pl so v at_ fa fp nl : Int32} {K : (Nat → Int32) → Int32 → Int32 → Int32 → Int32 → Int32 → Int32 → Int32 → Prop} :
    ∀ (m i : Nat) (a : Nat → Int32), i + m = 8 →
    (∀ a', (∀ k, k < 80 → a' k = a k) → (∀ k, i ≤ k → k < 8 → a' (80 + k) = -1) → (∀ k, k < i → a' (80 + k) = a (80 + k)) → wp_X8_next g (nI N) at_ pl so v (fun y12 y13 y14 y15 => ∃ n48 : Nat, wp_X8_parses_b48 K g (nI N) n48 a' y12 y13 y14 y15 fa fp nl)) →
    wp_X8_parses_b22 K g (nI N) pl so v (m + 1) a at_ fa fp nl (nI i) := by
  intro m
  induction m with
  | zero =>
    intro i a hi hK
    rw [wp_X8_parses_b22]
    refine pk_le 8 i (fun _ => ?_) (fun h => by omega)
    exact hK a (fun _ _ => rfl) (fun k h1 h2 => by omega) (fun _ _ => rfl)
  | succ m ih =>
    intro i a hi hK
    rw [wp_X8_parses_b22]
    have hc : (80 : Int32) + nI i = nI (80 + i) := by rw [show (80 : Int32) = nI 80 from rfl, nI_add]
    refine pk_le 8 i (fun h => by omega) (fun _ => ⟨?_, ?_⟩)
    · rw [hc]; exact vp_in_nI (by omega) (by omega)
    · rintro _ rfl
      rw [hc, nI_clamp (by omega), nI_1]
      refine ih (i + 1) _ (by omega) (fun a' h1 h2 h3 => hK a' (fun k hk => ?_) (fun k hk1 hk2 => ?_) (fun k hk => ?_))
      · rw [h1 k hk, pk_un (by omega)]
      · by_cases c : k = i
        · subst c; rw [h3 k (by omega), pk_us]
        · exact h2 k (by omega) hk2
      · rw [h3 k (by omega), pk_un (by omega)]
theorem vcopy_r {T ln : Nat} {sy : Nat → Nat} {K : Int32 → Int32 → Int32 → (Nat → Int32) → (Nat → Int32) → (Nat → Int32) → (Nat → Int32) → Int32 → Int32 → Int32 → Int32 → Int32 → Int32 → Int32 → Int32 → Int32 → Int32 → Int32 → Int32 → Prop} {lines y0 y1 z1 z2 z3 z4 z5 z6 z7 z8 z9 : Int32} {f1 f2 f3 : Nat → Int32} (hT : T < 10) :
    ∀ (m i : Nat) (a : Nat → Int32), i + m = 8 → (∀ k, k < 8 → a (80 + k) = sv (sy k)) →
    (∀ a', (∀ k, k < 8 * T + i → a' k = a k) → (∀ k, i ≤ k → k < 8 → a' (8 * T + k) = sv (sy k)) → K (nI T) y0 y1 f1 f2 f3 a' (nI (T + 1)) (lines + nI ln) z1 z2 z3 z4 z5 z6 z7 z8 z9 (nI ln)) →
    wp_X8_vote_b115 K (nI T) lines (m + 1) y0 y1 f1 f2 f3 a z1 z2 z3 z4 z5 z6 z7 z8 z9 (nI ln) (nI i) := by
  intro m
  induction m with
  | zero =>
    intro i a hi ha hK
    rw [wp_X8_vote_b115]
    refine pk_le 8 i (fun _ => ?_) (fun h => by omega)
    rintro _ rfl _ rfl
    rw [nI_1, show nI (T + 1) - 1 = nI T from by rw [show (1 : Int32) = nI 1 from rfl, pk_sub (by omega)]; rfl]
    exact hK a (fun _ _ => rfl) (fun k h1 h2 => by omega)
  | succ m ih =>
    intro i a hi ha hK
    rw [wp_X8_vote_b115]
    have hc : (80 : Int32) + nI i = nI (80 + i) := by rw [show (80 : Int32) = nI 80 from rfl, nI_add]
    have hc2 : (8 : Int32) * nI T + nI i = nI (8 * T + i) := by rw [show (8 : Int32) = nI 8 from rfl, pk_mul, nI_add]
    refine pk_le 8 i (fun h => by omega) (fun _ => ⟨?_, ?_⟩)
    · rw [hc]; exact vp_in_nI (by omega) (by omega)
    · rintro _ rfl
      rw [hc2]
      refine ⟨vp_in_nI (by omega) (by omega), ?_⟩
      rintro _ rfl
      rw [hc, nI_clamp (by omega), nI_clamp (by omega), nI_1, ha i (by omega)]
      refine ih (i + 1) _ (by omega) (fun k hk => ?_) (fun a' h1 h2 => hK a' (fun k hk => ?_) (fun k hk1 hk2 => ?_))
      · rw [pk_un (by omega)]; exact ha k hk
      · rw [h1 k (by omega), pk_un (by omega)]
      · by_cases c : k = i
        · subst c; rw [h1 _ (by omega), pk_us]
        · exact h2 k (by omega) hk2
theorem text_of {L N : Nat} {tp_words mm_tape : Nat → Int32} {tp_length mm_taped : Int32} (hR : R_tape L tp_words tp_length mm_tape mm_taped) (hN : N ≤ L) : ∃ tb, R_text L N tb tp_words mm_tape := by
  obtain ⟨h1, -, -, -, h5⟩ := hR
  refine ⟨fun j => Classical.choose (by_nat (tp_words (j / 4)) (j % 4)), h1, hN, fun j hj => ?_⟩
  have := Classical.choose_spec (by_nat (tp_words (j / 4)) (j % 4))
  exact ⟨this.1, this.2, by rw [h5 j (by omega)]; exact this.2⟩
theorem p_vote {d T L : Nat} {tF tV tU : Nat → Nat} {tS : Nat → Nat → Nat} {ru_from ru_voted ru_undone ru_says : Nat → Int32} {ru_texts ru_lines : Int32} {mm_toldOn mm_fromDay mm_undoneOn mm_values : Nat → Int32} {mm_texts mm_lines hh_today mm_today mm_thrown x1 x2 : Int32}
    {rd_says tp_words mm_tape : Nat → Int32} {rd_lines rd_fault rd_faultPlace rd_length rd_place rd_kind rd_start rd_value tp_length mm_taped mm_size mm_at mm_place mm_sort mm_value mm_fault mm_faultPlace mm_lastFault mm_lastPlace mm_newLines : Int32}
    {P : (Nat → Int32) → Int32 → Int32 → Int32 → Int32 → Int32 → Int32 → Int32 → Int32 → Int32 → (Nat → Int32) → (Nat → Int32) → (Nat → Int32) → (Nat → Int32) → Int32 → Int32 → Int32 → Int32 → (Nat → Int32) → (Nat → Int32) → (Nat → Int32) → (Nat → Int32) → Int32 → Int32 → Int32 → Int32 → Int32 → Int32 → Int32 → Int32 → Int32 → Int32 → Int32 → Int32 → Prop}
    (hR : R_rules d T tF tV tU tS ru_from ru_voted ru_undone ru_says ru_texts mm_toldOn mm_fromDay mm_undoneOn mm_values mm_texts) (hd : d < 100) (e1 : hh_today = nI d) (e2 : mm_today = nI d) (e3 : ru_lines = mm_lines)
    (hT : R_tape L tp_words tp_length mm_tape mm_taped)
    (h0 : P rd_says rd_lines rd_fault rd_faultPlace rd_length rd_place rd_kind rd_start rd_value tp_length ru_from ru_voted ru_undone ru_says ru_texts ru_lines 0 mm_taped mm_toldOn mm_fromDay mm_undoneOn mm_values mm_texts mm_lines mm_size mm_at mm_place mm_sort mm_value mm_fault mm_faultPlace mm_lastFault mm_lastPlace mm_newLines)
    (hF : ∀ (a b : Nat → Int32) y1 y2 y3 y4 y5 y6 y7 y8 z1 z2 z3 z4 z5 z6, R_tape 0 tp_words 0 mm_tape 0 → R_rules d T tF tV tU tS ru_from ru_voted ru_undone ru_says ru_texts mm_toldOn mm_fromDay mm_undoneOn b mm_texts →
      P a y1 y2 y3 y4 y5 y6 y7 y8 0 ru_from ru_voted ru_undone ru_says ru_texts ru_lines 0 0 mm_toldOn mm_fromDay mm_undoneOn b mm_texts mm_lines z1 z2 z3 z4 z5 y2 y3 y2 y3 z6)
    (hS : ∀ (a b fr vo un sa to fd ud : Nat → Int32) (from_ : Nat) (sy : Nat → Nat) l y1 y3 y4 y5 y6 y7 y8 z1 z2 z3 z4 z5 z6, T < 10 → R_tape 0 tp_words 0 mm_tape 0 → R_rules d (T + 1) (ap tF T from_) (ap tV T d) (ap tU T 1000) (fun t k => if t = T then sy k else tS t k) fr vo un sa (nI (T + 1)) to fd ud b (nI (T + 1)) →
      P a y1 0 y3 y4 y5 y6 y7 y8 0 fr vo un sa (nI (T + 1)) l 0 0 to fd ud b (nI (T + 1)) l z1 z2 z3 z4 z5 0 y3 0 y3 z6) :
    wp_X7_vote hh_today rd_says rd_lines rd_fault rd_faultPlace rd_length rd_place rd_kind rd_start rd_value tp_words tp_length ru_from ru_voted ru_undone ru_says ru_texts ru_lines x1 x2
      (fun r a1 a2 a3 a4 a5 a6 a7 a8 a9 a10 a11 a12 a13 a14 a15 a16 => wp_X8_vote mm_thrown mm_tape mm_taped mm_today mm_toldOn mm_fromDay mm_undoneOn mm_values mm_texts mm_lines mm_size mm_at mm_place mm_sort mm_value mm_fault mm_faultPlace mm_lastFault mm_lastPlace mm_newLines x1 x2
        (fun q b1 b2 b3 b4 b5 b6 b7 b8 b9 b10 b11 b12 b13 b14 b15 b16 b17 b18 => r = q ∧ P a1 a2 a3 a4 a5 a6 a7 a8 a9 a10 a11 a12 a13 a14 a15 a16 b1 b2 b3 b4 b5 b6 b7 b8 b9 b10 b11 b12 b13 b14 b15 b16 b17 b18)) := by
  have hR0 := hR
  have hT0 := hT
  obtain ⟨hT10, rfl, rfl, r1, r2, hFF, r3, r4, hV, hU0, hU, hs, hs2, hs3⟩ := hR
  obtain ⟨hL, hL20, rfl, rfl, hj⟩ := hT
  subst e1 e2 e3
  unfold wp_X7_vote wp_X8_vote
  rw [isBelow_iff]
  by_cases a1 : x1 < 0
  · simp only [a1, true_implies, not_true_eq_false, false_implies, and_true]
    first | exact h0 | exact ⟨trivial, h0⟩ | exact ⟨rfl, h0⟩ | exact ⟨fun _ => h0, fun q => absurd rfl q⟩
  by_cases a2 : nI L < x1
  · simp only [a1, a2, true_implies, not_true_eq_false, not_false_eq_true, false_implies, and_true, true_and]
    first | exact h0 | exact ⟨trivial, h0⟩ | exact ⟨rfl, h0⟩ | exact ⟨fun _ => h0, fun q => absurd rfl q⟩
  have hx1 : ∃ N, N ≤ L ∧ x1 = nI N := by
    rcases come L x1 (by omega) with h | ⟨-, h, -⟩ | ⟨j, hj, e, -⟩
    · exact absurd h a1
    · exact absurd h a2
    · exact ⟨j, hj, e⟩
  obtain ⟨N, hN, rfl⟩ := hx1
  rcases rng 99 x2 (by omega) with h | ⟨h, h', h''⟩ | ⟨fr, hfr, e, b1, b2, b3⟩
  · simp only [a1, a2, h, true_implies, not_true_eq_false, not_false_eq_true, false_implies, and_true, true_and, true_or]
    first | exact h0 | exact ⟨trivial, h0⟩ | exact ⟨rfl, h0⟩ | exact ⟨fun _ => h0, fun q => absurd rfl q⟩
  · have q1 : (100 : Int32) ≤ x2 := h'
    have q2 : (99 : Int32) < x2 := h''
    simp only [a1, a2, h, q1, q2, true_implies, not_true_eq_false, not_false_eq_true, false_implies, and_true, true_and, or_true]
    first | exact h0 | exact ⟨trivial, h0⟩ | exact ⟨rfl, h0⟩ | exact ⟨fun _ => h0, fun q => absurd rfl q⟩
  have q1 : ¬ (100 : Int32) ≤ x2 := b2
  have q2 : ¬ (99 : Int32) < x2 := b3
  by_cases hT9 : T = 10
  · have q3 : ¬ nI T < 10 := nI_nlt (a := T) (b := 10) (by omega) (by omega)
    have q4 : nI T = 10 := by rw [hT9]; rfl
    simp only [a1, a2, b1, q1, q2, q3, q4, true_implies, not_true_eq_false, not_false_eq_true, false_implies, and_true, true_and, or_self]
    refine ⟨fun q => absurd q one0, fun _ => ?_⟩
    rw [← q4]
    exact ⟨fun q => absurd q (by rw [i_lt]; omega), fun _ => h0⟩
  have q3 : nI T < 10 := nI_lt (a := T) (b := 10) (by omega) (by omega)
  have q4 : ¬ nI T = 10 := fun q => by have := (nI_eq (a := T) (b := 10) (by omega) (by omega)).mp q; omega
  simp only [a1, a2, b1, q1, q2, q3, q4, true_implies, not_true_eq_false, not_false_eq_true, false_implies, and_true, true_and, or_self]
  refine ⟨fun q => absurd q one0, fun _ => ?_⟩
  obtain ⟨tb, hX⟩ := text_of hT0 hN
  unfold wp_X3_read
  refine tok_c (i := 0) hX (by omega) (fun p1 k1 s1 v1 h1 => ?_)
  have o1 := tokS_ok (tb := tb) (N := N) (i := 0) (by omega)
  have hsy : sy_ok (fun _ => 1000) := fun k _ => Nat.le_refl _
  have ro := readS_ok (tb := tb) (N := N) (m := N) (t := tokS tb N 0) (sy := fun _ => 1000) (ln := 0) o1.1 hsy
  refine ⟨N + 1, read_c hX N 0 0 (tokS tb N 0) (fun _ => 1000) _ _ _ _ _ (by omega) o1.2 o1.1 h1 hsy (fun k hk => ?_) (fun a' l' pl' kd' st' v' ha => ?_)⟩
  · unfold mk_fill; rw [if_pos hk]; rfl
  have ref : ∀ (K : (Nat → Int32) → Int32 → Int32 → Int32 → Int32 → Int32 → Int32 → Int32 → Prop), (∀ a' at' pl' so' v' l', (∀ k, k < 80 → a' k = mm_values k) → ((readS tb N N (tokS tb N 0) (fun _ => 1000) 0).1 = 0 → (∀ k, k < 8 → a' (80 + k) = sv ((readS tb N N (tokS tb N 0) (fun _ => 1000) 0).2.2.1 k)) ∧ l' = nI (readS tb N N (tokS tb N 0) (fun _ => 1000) 0).2.2.2) → K a' at' pl' so' v' (nI (readS tb N N (tokS tb N 0) (fun _ => 1000) 0).1) (fpI (readS tb N N (tokS tb N 0) (fun _ => 1000) 0)) l') → wp_X8_parses mm_tape mm_values (nI N) mm_at mm_place mm_sort mm_value mm_fault mm_faultPlace mm_newLines K := by
    intro K hK
    unfold wp_X8_parses
    refine ⟨9, pclear_r (L := L) 8 0 mm_values (by omega) (fun b hb1 hb2 _ => ?_)⟩
    refine tok_r (i := 0) hX (by omega) (fun p2 k2 s2 v2 h2 => ⟨N + 1, ?_⟩)
    exact parses_r hX N 0 0 (tokS tb N 0) (fun _ => 1000) b _ _ _ _ (by omega) o1.2 o1.1 h2 hsy hb1 (fun k hk => hb2 k (by omega) hk) hK
  generalize readS tb N N (tokS tb N 0) (fun _ => 1000) 0 = R at ro ha ref ⊢
  have hT0' : R_tape 0 tp_words 0 mm_tape 0 := ⟨by omega, by omega, rfl, rfl, fun j hj => by omega⟩
  unfold wp_X6_clear
  by_cases c : R.1 = 0
  · have ha9 := ha c
    have cI : nI R.1 = 0 := by rw [c]; rfl
    rw [cI]
    refine br_t rfl ?_
    unfold wp_X4_add
    have m8 : nI T * 8 = nI (T * 8) := by rw [show (8 : Int32) = nI 8 from rfl, pk_mul]
    have c8 : (8 : Int32).toNatClampNeg = 8 := nI_clamp (n := 8) (by omega)
    have c0 : (0 : Int32).toNatClampNeg = 0 := nI_clamp (n := 0) (by omega)
    rw [m8, nI_clamp (n := T * 8) (by omega), c8, c0]
    refine ⟨by decide, nI_nlt (a := T * 8) (b := 0) (by omega) (by omega), by decide, by omega, by omega, vp_in_nI (by omega) (by omega), vp_in_nI (by omega) (by omega), vp_in_nI (by omega) (by omega), ?_⟩
    rintro _ rfl _ rfl
    refine ref _ (fun b at2 pl2 so2 v2 l2 hb1 hb2 => ?_)
    have hb2' := hb2 c
    obtain ⟨hb3, rfl⟩ := hb2'
    obtain ⟨ha7, rfl⟩ := ha9
    rw [cI]
    refine br_t rfl ⟨vp_in_nI (by omega) (by omega), vp_in_nI (by omega) (by omega), vp_in_nI (by omega) (by omega), 9, ?_⟩
    refine vcopy_r (sy := R.2.2.1) (by omega) 8 0 b (by omega) hb3 (fun b' hc1 hc2 => ⟨rfl, ?_⟩)
    rw [nI_1, nI_clamp (n := T) (by omega), e]
    refine hS _ _ _ _ _ _ _ _ _ fr R.2.2.1 _ _ _ _ _ _ _ _ _ _ _ _ _ _ (by omega) hT0' ?_
    refine ⟨by omega, rfl, rfl, rw_ap r1, rw_ap r2, ?_, rw_ap r3, rw_ap r4, ?_, ?_, rw_ap hU, ?_, ?_, ?_⟩
    · intro t ht
      by_cases w : t = T
      · rw [w, ap_s]; omega
      · rw [ap_n w]; exact hFF t (by omega)
    · intro t ht
      by_cases w : t = T
      · rw [w, ap_s]; omega
      · rw [ap_n w]; exact hV t (by omega)
    · intro t ht
      by_cases w : t = T
      · rw [w, ap_s, pk_us]; exact Or.inl ⟨rfl, rfl⟩
      · rw [ap_n w, pk_un w]; exact hU0 t (by omega)
    · intro t k ht hk
      by_cases w : t = T
      · subst w
        show va_cpy a' ru_says 0 (t * 8) 8 (t * 8 + k) = sv (if t = t then R.2.2.1 k else tS t k)
        rw [if_pos rfl, pk_cpy_in (by omega) (by omega), show 0 + (t * 8 + k - t * 8) = k from by omega]
        exact ha7 k hk
      · show va_cpy a' ru_says 0 (T * 8) 8 (t * 8 + k) = sv (if t = T then R.2.2.1 k else tS t k)
        rw [if_neg w, pk_cpy_out (Or.inl (by omega))]
        exact hs t k (by omega) hk
    · intro t k ht hk
      by_cases w : t = T
      · subst w
        show b' (8 * t + k) = sv (if t = t then R.2.2.1 k else tS t k)
        rw [if_pos rfl]
        exact hc2 k (by omega) hk
      · show b' (8 * t + k) = sv (if t = T then R.2.2.1 k else tS t k)
        rw [if_neg w, hc1 _ (by omega), hb1 _ (by omega)]
        exact hs2 t k (by omega) hk
    · intro t k ht hk
      show (if t = T then R.2.2.1 k else tS t k) ≤ 1000
      by_cases w : t = T
      · rw [if_pos w]; exact ro.2.2 k hk
      · rw [if_neg w]; exact hs3 t k (by omega) hk
  · have cI : ¬ nI R.1 = 0 := fun q => c ((nI_eq (a := R.1) (b := 0) (by omega) (by omega)).mp q)
    refine br_f cI ?_
    refine ref _ (fun b at2 pl2 so2 v2 l2 hb1 hb2 => ?_)
    refine br_f cI ?_
    refine hF _ _ _ _ _ _ _ _ _ _ _ _ _ _ _ _ hT0' ?_
    exact ⟨hT10, rfl, rfl, r1, r2, hFF, r3, r4, hV, hU0, hU, hs, fun t k ht hk => by rw [hb1 _ (by omega)]; exact hs2 t k ht hk, hs3⟩
