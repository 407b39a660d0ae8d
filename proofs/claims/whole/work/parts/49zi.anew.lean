/-! anew -/
theorem p_anew {d n : Nat} {W : Nat} {bk sg : Nat → Nat} {T : Nat} {tF tV tU : Nat → Nat} {tS : Nat → Nat → Nat} {Pn : Nat} {pW pS pT pL : Nat → Nat} {hn : Nat} {hW hD hF hT : Nat → Nat} {C : Nat} {cs cn cw cN cm cY ord : Nat → Nat} {cr_book cr_signed cr_latestPaper cr_paperBefore cr_paperLast cr_paperTold cr_minutesHere ca_skill ca_days ca_wanted ca_named ca_minute ca_day ca_refusers ca_order ru_from ru_voted ru_undone ru_says mm_toldOn mm_fromDay mm_undoneOn mm_values mm_books mm_signed mm_paperWorker mm_paperSkill mm_paperTold mm_paperLast mm_hereWorker mm_hereDay mm_hereFrom mm_hereTo mm_callSkill mm_callDays mm_callWanted mm_callName mm_callMinute mm_callDay mm_refuses : Nat → Int32} {cr_size cr_papers cr_heres ca_size ru_texts mm_texts mm_workers mm_papers mm_heres mm_calls : Int32} {E : Nat → EV} {fl_lists fl_listSize fl_job fl_jobLast fl_refusals fl_notes mm_keptRow mm_keptMany mm_keptOn mm_keptCall mm_keptRefusals mm_keptWhys mm_keptMinutes be_lists be_listSize be_job be_jobLast be_refusals be_notes be_laws be_line mm_row mm_rowMany mm_isOn mm_jobLast mm_jobDays mm_jobCall mm_refusals mm_whys mm_minutes mm_snapshot mm_differCall mm_differWorker mm_differSent : Nat → Int32} {fl_callsDone fl_sentInAll be_lineSize be_clock be_callsDone be_sentInAll mm_allSent mm_sentMany mm_clock mm_left mm_done mm_differMany hh_today mm_today mm_thrown x1 x2 : Int32}
    {P : (Nat → Int32) → (Nat → Int32) → (Nat → Int32) → (Nat → Int32) → (Nat → Int32) → (Nat → Int32) → (Nat → Int32) → (Nat → Int32) → Int32 → Int32 → Int32 → Int32 → Int32 → (Nat → Int32) → (Nat → Int32) → (Nat → Int32) → (Nat → Int32) → (Nat → Int32) → (Nat → Int32) → (Nat → Int32) → (Nat → Int32) → (Nat → Int32) → Int32 → Int32 → Int32 → Int32 → (Nat → Int32) → (Nat → Int32) → (Nat → Int32) → (Nat → Int32) → Int32 → Prop}
    (hcr : R_crew d W bk sg cr_book cr_signed cr_size mm_books mm_signed mm_workers) (hru : R_rules d T tF tV tU tS ru_from ru_voted ru_undone ru_says ru_texts mm_toldOn mm_fromDay mm_undoneOn mm_values mm_texts) (hpa : R_paper d Pn pW pS pT pL cr_latestPaper cr_paperBefore cr_paperLast cr_paperTold cr_papers mm_paperWorker mm_paperSkill mm_paperTold mm_paperLast mm_papers) (hhe : R_here hn hW hD hF hT cr_minutesHere cr_heres mm_hereWorker mm_hereDay mm_hereFrom mm_hereTo mm_heres) (hca : R_calls d W C sg cs cn cw cN cm cY ord ca_skill ca_days ca_wanted ca_named ca_minute ca_day ca_refusers ca_order ca_size mm_callSkill mm_callDays mm_callWanted mm_callName mm_callMinute mm_callDay mm_refuses mm_calls) (hfl : R_flo d W bk sg T tF tV tU tS Pn pW pS pT pL hn hW hD hF hT C cs cn cw cN cm cY ord E n mm_refuses fl_lists fl_listSize fl_job fl_jobLast fl_refusals fl_notes fl_callsDone fl_sentInAll mm_keptRow mm_keptMany mm_keptOn mm_keptCall mm_keptRefusals mm_keptWhys mm_keptMinutes mm_allSent) (hd : d < 100) (e1 : hh_today = nI d) (e2 : mm_today = nI d)
    (h0 : P be_lists be_listSize be_job be_jobLast be_refusals be_notes be_laws be_line be_lineSize be_clock be_callsDone be_sentInAll 0 mm_row mm_rowMany mm_isOn mm_jobLast mm_jobDays mm_jobCall mm_refusals mm_whys mm_minutes mm_sentMany mm_clock mm_left mm_done mm_snapshot mm_differCall mm_differWorker mm_differSent mm_differMany)
    (hP : ∀ (kb : Nat) (nb : Nat → Nat) (f1 f2 f3 f4 f5 f6 f7 f8 : Nat → Int32) y1 y2 y3 y4 (g1 g2 g3 g4 g5 g6 g7 g8 g9 : Nat → Int32) z1 z2 z3 z4 (g10 k1 k2 k3 : Nat → Int32) z5, R_bes n kb (iterS E d).2.2.2.2.1 nb f6 y3 k1 k2 k3 z5 →
      P f1 f2 f3 f4 f5 f6 f7 f8 y1 y2 y3 y4 0 g1 g2 g3 g4 g5 g6 g7 g8 g9 z1 z2 z3 z4 g10 k1 k2 k3 z5) :
    wp_X7_anew hh_today fl_notes be_lists be_listSize be_job be_jobLast be_refusals be_notes be_laws be_line be_lineSize be_clock be_callsDone be_sentInAll ru_from ru_voted ru_undone ru_says ru_texts cr_book cr_signed cr_size cr_latestPaper cr_paperBefore cr_paperLast cr_paperTold cr_papers cr_minutesHere ca_skill ca_days ca_wanted ca_named ca_minute ca_day ca_refusers ca_order ca_size x1 x2
      (fun r a1 a2 a3 a4 a5 a6 a7 a8 a9 a10 a11 a12 => wp_X8_anew mm_thrown mm_today mm_toldOn mm_fromDay mm_undoneOn mm_values mm_texts mm_books mm_signed mm_workers mm_paperWorker mm_paperSkill mm_paperTold mm_paperLast mm_papers mm_hereWorker mm_hereDay mm_hereFrom mm_hereTo mm_heres mm_callSkill mm_callDays mm_callWanted mm_callName mm_callMinute mm_callDay mm_refuses mm_calls mm_row mm_rowMany mm_isOn mm_jobLast mm_jobDays mm_jobCall mm_refusals mm_whys mm_minutes mm_sentMany mm_clock mm_left mm_done mm_snapshot mm_keptWhys mm_differCall mm_differWorker mm_differSent mm_differMany x1 x2
        (fun q b1 b2 b3 b4 b5 b6 b7 b8 b9 b10 b11 b12 b13 b14 b15 b16 b17 b18 b19 => r = q ∧ P a1 a2 a3 a4 a5 a6 a7 a8 a9 a10 a11 a12 b1 b2 b3 b4 b5 b6 b7 b8 b9 b10 b11 b12 b13 b14 b15 b16 b17 b18 b19)) := by
  subst e1 e2
  obtain ⟨hE, hF7, hN, c1, c2, c3, hKp⟩ := hfl
  have it := iter_ok (kf := fun D => D) hcr hru hpa hhe hca hd d (fun D hD => ⟨by omega, hE D hD⟩)
  have W16 := hcr.1
  have C60 := hca.1.1
  unfold wp_X7_anew
  rw [hasCome_iff]
  rcases come d x1 (by omega) with a | ⟨a, a', -⟩ | ⟨day, hday, rfl, a, a', -⟩
  · refine ⟨fun _ => ⟨fun _ => ?_, fun q => absurd rfl q⟩, fun q => absurd (Or.inl a) q⟩
    unfold wp_X8_anew
    exact br_t a ⟨rfl, h0⟩
  · refine ⟨fun _ => ⟨fun _ => ?_, fun q => absurd rfl q⟩, fun q => absurd (Or.inr a') q⟩
    unfold wp_X8_anew
    exact br_f a (br_t a' ⟨rfl, h0⟩)
  refine ⟨fun q => absurd q (fun t => t.elim a a'), fun _ => ⟨fun q => absurd q one0, fun _ => ?_⟩⟩
  rw [hasCome_iff]
  rcases come d x2 (by omega) with b | ⟨b, b', b''⟩ | ⟨kn, hkn, rfl, b, b', b''⟩
  · refine ⟨fun _ => ⟨fun q => absurd rfl q, fun _ => ?_⟩, fun q => absurd (Or.inl b) q⟩
    unfold wp_X8_anew
    exact br_f a (br_f a' (br_t b ⟨rfl, h0⟩))
  · refine ⟨fun _ => ⟨fun q => absurd rfl q, fun _ => ?_⟩, fun q => absurd (Or.inr b') q⟩
    unfold wp_X8_anew
    exact br_f a (br_f a' (br_f b (br_f b'' ⟨rfl, h0⟩)))
  refine ⟨fun q => absurd q (fun t => t.elim b b'), fun _ => ⟨fun _ => ?_, fun q => absurd q one0⟩⟩
  have sk : ∃ E2 : Nat → EV, ∀ D, D < 1000 → MT D kn W bk sg T tF tV tU tS Pn pW pS pT pL hn hW hD hF hT C cs cn cw cN cm cY ord mm_refuses (E2 D) := by
    have : ∀ D, ∃ e, D < 1000 → MT D kn W bk sg T tF tV tU tS Pn pW pS pT pL hn hW hD hF hT C cs cn cw cN cm cY ord mm_refuses e := fun D => by
      by_cases c : D < 1000
      · obtain ⟨e, he⟩ := MT_mk (D := D) (kn := kn) (W := W) (bk := bk) (sg := sg) (T := T) (tF := tF) (tV := tV) (tU := tU) (tS := tS) (Pn := Pn) (pW := pW) (pS := pS) (pT := pT) (pL := pL) (hn := hn) (hW := hW) (hD := hD) (hF := hF) (hT := hT) (C := C) (cs := cs) (cn := cn) (cw := cw) (cN := cN) (cm := cm) (cY := cY) (ord := ord) (rf := mm_refuses) hca.2.2.2.2.2.2.2.2.2.2.2.2.2 c
        exact ⟨e, fun _ => he⟩
      · exact ⟨(fun _ => 0, fun _ _ => 0, fun _ _ => 0, fun _ => 0, fun _ _ => 0, fun _ => 0, fun _ => 0, 0, []), fun q => absurd q c⟩
    exact Classical.skolem.mp this
  obtain ⟨E2, hE2⟩ := sk
  have itD : ∀ D, D ≤ day → IT W sg C cY D (iterS E2 D) := fun D hD' => iter_ok (kf := fun _ => kn) hcr hru hpa hhe hca hd D (fun D' hD'' => ⟨by omega, hE2 D' (by omega)⟩)
  obtain ⟨kb, hkb⟩ := isN_ex (D := day) (cY := cY) (C := C) hca.2.2.2.2.2.2.2.2.2.2.2.2.2
  have kbn := isN_mono hkb hN hday
  have n60 : n ≤ 60 := by have := hN.1; omega
  have noP : ∀ m j, W ≤ j % 16 → ¬ PD W sg m (j % 16) := fun m j h q => by have := q.1; omega
  have hno : ∀ j, W ≤ j % 16 → ¬ dif (iterS E d).2.2.2.2.1 (iterS E2 day).2.2.2.2.1 j = true := by
    intro j hj
    unfold dif
    rw [decide_eq_true_eq, it.2.1 j (noP d j hj), (itD day (Nat.le_refl _)).2.1 j (noP day j hj)]
    exact fun z => z Iff.rfl
  -- the reference, once the class has answered
  have ref : ∀ (f1 f2 f3 f4 f5 f6 f7 f8 : Nat → Int32) (y1 y2 y3 y4 : Int32), RF bk (iterS E2 day) f1 f2 f3 f4 f5 f6 → y3 = nI kb → wp_X8_anew mm_thrown (nI d) mm_toldOn mm_fromDay mm_undoneOn mm_values mm_texts mm_books mm_signed mm_workers mm_paperWorker mm_paperSkill mm_paperTold mm_paperLast mm_papers mm_hereWorker mm_hereDay mm_hereFrom mm_hereTo mm_heres mm_callSkill mm_callDays mm_callWanted mm_callName mm_callMinute mm_callDay mm_refuses mm_calls mm_row mm_rowMany mm_isOn mm_jobLast mm_jobDays mm_jobCall mm_refusals mm_whys mm_minutes mm_sentMany mm_clock mm_left mm_done mm_snapshot mm_keptWhys mm_differCall mm_differWorker mm_differSent mm_differMany (nI day) (nI kn)
        (fun q b1 b2 b3 b4 b5 b6 b7 b8 b9 b10 b11 b12 b13 b14 b15 b16 b17 b18 b19 => nI (DL (iterS E d).2.2.2.2.1 (iterS E2 day).2.2.2.2.1 (16 * kb)).length = q ∧ P f1 f2 f3 f4 f5 f6 f7 f8 y1 y2 y3 y4 b1 b2 b3 b4 b5 b6 b7 b8 b9 b10 b11 b12 b13 b14 b15 b16 b17 b18 b19) := by
    intro f1 f2 f3 f4 f5 f6 f7 f8 y1 y2 y3 y4 hF' hy3
    unfold wp_X8_anew
    refine br_f a (br_f a' (br_f b (br_t b'' ?_)))
    have hm := ne_m1 (v := kn) (by omega)
    refine works_r (kf := fun _ => kn) (E := E2) hcr hru hpa hhe hca hd (by omega) (fun D hD' => ⟨by omega, hE2 D (by omega)⟩) (Or.inr ⟨hm, kn, hkn, rfl, fun _ => rfl⟩) (fun r1 r2 r3 r4 r5 r6 r7 r8 r9 sm' ck2 lf2 dn2 sn2 hM' hsm => ?_)
    have hw1 := hcr.2.2.1
    have hc1 := hca.1.2.2
    rw [hw1, hc1]
    refine enum_r (N := (iterS E d).2.2.2.2.1) (nb := (iterS E2 day).2.2.2.2.1) C60 W16 (by omega) hca.2.2.2.2.2.2.1.2.1 (fun k hk => by have := hca.2.2.2.2.2.2.1.2.2 k hk; omega) hkb (fun j hj => (hM'.2.2.2.2.2 j hj).1) hKp.2.2.2.2.1 hno mm_differCall mm_differWorker mm_differSent (fun dc' dw' ds' hRD => ⟨rfl, ?_⟩)
    exact hP kb (iterS E2 day).2.2.2.2.1 _ _ _ _ _ _ _ _ _ _ _ _ _ _ _ _ _ _ _ _ _ _ _ _ _ _ _ _ _ _ ⟨kbn, n60, hy3, hF'.2.2.2.2, (itD day (Nat.le_refl _)).1.2.2.2, rfl, hRD⟩
  have loop : ∀ m D (f1 f2 f3 f4 f5 f6 f7 f8 : Nat → Int32) (y1 y2 : Int32) (nd : Nat), D + m = day → isN C cY D nd → RF bk (iterS E2 D) f1 f2 f3 f4 f5 f6 →
      wp_X7_anew_b27 (fun r a1 a2 a3 a4 a5 a6 a7 a8 a9 a10 a11 a12 => wp_X8_anew mm_thrown (nI d) mm_toldOn mm_fromDay mm_undoneOn mm_values mm_texts mm_books mm_signed mm_workers mm_paperWorker mm_paperSkill mm_paperTold mm_paperLast mm_papers mm_hereWorker mm_hereDay mm_hereFrom mm_hereTo mm_heres mm_callSkill mm_callDays mm_callWanted mm_callName mm_callMinute mm_callDay mm_refuses mm_calls mm_row mm_rowMany mm_isOn mm_jobLast mm_jobDays mm_jobCall mm_refusals mm_whys mm_minutes mm_sentMany mm_clock mm_left mm_done mm_snapshot mm_keptWhys mm_differCall mm_differWorker mm_differSent mm_differMany (nI day) (nI kn)
        (fun q b1 b2 b3 b4 b5 b6 b7 b8 b9 b10 b11 b12 b13 b14 b15 b16 b17 b18 b19 => r = q ∧ P a1 a2 a3 a4 a5 a6 a7 a8 a9 a10 a11 a12 b1 b2 b3 b4 b5 b6 b7 b8 b9 b10 b11 b12 b13 b14 b15 b16 b17 b18 b19)) fl_notes ru_from ru_voted ru_undone ru_says ru_texts cr_book cr_signed (nI W) cr_latestPaper cr_paperBefore cr_paperLast cr_paperTold cr_papers cr_minutesHere ca_skill ca_days ca_wanted ca_named ca_minute ca_day ca_refusers ca_order (nI C) (nI day) (nI kn) (m + 1) f1 f2 f3 f4 f5 f6 f7 f8 y1 y2 (nI nd) (nI (iterS E2 D).2.2.2.2.2) (nI D) := by
    intro m
    induction m with
    | zero =>
      intro D f1 f2 f3 f4 f5 f6 f7 f8 y1 y2 nd hD' hnd hF'
      have : D = day := by omega
      subst this
      have : nd = kb := isN_uni hnd hkb
      subst this
      rw [wp_X7_anew_b27]
      refine pk_le D D (fun _ => ?_) (fun q => by omega)
      exact count_c hF7.2.2.2.2 it.1.2.2.2 hF'.2.2.2.2 (itD D (Nat.le_refl _)).1.2.2.2 (by omega) (ref f1 f2 f3 f4 f5 f6 f7 f8 y1 y2 _ _ hF' rfl)
    | succ m ih =>
      intro D f1 f2 f3 f4 f5 f6 f7 f8 y1 y2 nd hD' hnd hF'
      have he := hE2 D (by omega)
      have eD1 : eD (E2 D) = D := he.1
      have hX := DXc_of hcr hru hpa hhe hca he hd (by omega) hnd
      have i1 : IV (PD W sg D) (GD C cY (D + 1)) (eD (E2 D)) (iterS E2 D) := by rw [eD1]; exact IV_mono (itD D (by omega)).1 (Nat.le_refl _) (fun c hc => ⟨hc.1, by have := hc.2; omega⟩)
      have hsaid : ∀ j (K : Int32 → Prop), j < 5 → K (nI (eLw (E2 D) j)) → wp_X4_said ru_from ru_voted ru_undone ru_says ru_texts (nI j) (nI (eD (E2 D))) (nI kn) K := by
        intro j K hj hK
        rw [he.2.1 j hj] at hK
        rw [eD1]
        exact said_ok hru hd (by omega) (by omega) (by omega) hK
      rw [wp_X7_anew_b27]
      refine pk_le day D (fun q => by omega) (fun _ => ?_)
      have wk := work_c (K := fun r3 a4 a5 a6 a7 a8 a9 a10 a11 y12 y13 y14 y15 => ∀ y16 : Int32, y16 = nI D + 1 → wp_X7_anew_b27 (fun r a1 a2 a3 a4 a5 a6 a7 a8 a9 a10 a11 a12 => wp_X8_anew mm_thrown (nI d) mm_toldOn mm_fromDay mm_undoneOn mm_values mm_texts mm_books mm_signed mm_workers mm_paperWorker mm_paperSkill mm_paperTold mm_paperLast mm_papers mm_hereWorker mm_hereDay mm_hereFrom mm_hereTo mm_heres mm_callSkill mm_callDays mm_callWanted mm_callName mm_callMinute mm_callDay mm_refuses mm_calls mm_row mm_rowMany mm_isOn mm_jobLast mm_jobDays mm_jobCall mm_refusals mm_whys mm_minutes mm_sentMany mm_clock mm_left mm_done mm_snapshot mm_keptWhys mm_differCall mm_differWorker mm_differSent mm_differMany (nI day) (nI kn)
        (fun q b1 b2 b3 b4 b5 b6 b7 b8 b9 b10 b11 b12 b13 b14 b15 b16 b17 b18 b19 => r = q ∧ P a1 a2 a3 a4 a5 a6 a7 a8 a9 a10 a11 a12 b1 b2 b3 b4 b5 b6 b7 b8 b9 b10 b11 b12 b13 b14 b15 b16 b17 b18 b19)) fl_notes ru_from ru_voted ru_undone ru_says ru_texts cr_book cr_signed (nI W) cr_latestPaper cr_paperBefore cr_paperLast cr_paperTold cr_papers cr_minutesHere ca_skill ca_days ca_wanted ca_named ca_minute ca_day ca_refusers ca_order (nI C) (nI day) (nI kn) (m + 1) a4 a5 a6 a7 a8 a9 a10 a11 y12 y13 y14 y15 y16) (laws := f7) (line := f8) (n0 := y1) (ck := y2) hX.1 hsaid i1 hF' (fun g1 g2 g3 g4 g5 g6 lw ln n1 ck' hF2 => ?_)
      · rw [eD1] at wk
        exact wk
      · rintro _ rfl
        rw [nI_1]
        exact ih (D + 1) g1 g2 g3 g4 g5 g6 lw ln n1 ck' _ (by omega) hX.2 hF2
  unfold wp_X2_clear
  have cs1 := hcr.2.1
  have cc1 := hca.1.2.1
  rw [cs1, cc1]
  refine ⟨day + 1, loop day 0 be_lists _ _ be_jobLast _ _ be_laws be_line be_lineSize be_clock 0 (by omega) ⟨by omega, fun k hk => by omega, fun k _ _ => by omega⟩ ⟨fun bb hb => ⟨?_, trivial⟩, fun w hw => ?_, fun w _ q => absurd rfl q, fun w hw => ?_, fun j hj => ?_⟩⟩
  · show mk_fill 3 0 be_listSize bb = 0
    unfold mk_fill; rw [if_pos hb]
  · show mk_fill 16 (-1) be_job w = -1
    unfold mk_fill; rw [if_pos hw]
  · show mk_fill 16 0 be_refusals w = 0
    unfold mk_fill; rw [if_pos hw]
  · show mk_fill 960 0 be_notes j = 0
    unfold mk_fill; rw [if_pos hj]
