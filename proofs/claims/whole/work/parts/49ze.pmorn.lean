/-! morning, both sides -/
def R_flo (d : Nat) (W : Nat) (bk sg : Nat → Nat) (T : Nat) (tF tV tU : Nat → Nat) (tS : Nat → Nat → Nat) (Pn : Nat) (pW pS pT pL : Nat → Nat) (hn : Nat) (hW hD hF hT : Nat → Nat) (C : Nat) (cs cn cw cN cm cY ord : Nat → Nat) (E : Nat → EV) (n : Nat) (mm_refuses fl_lists fl_listSize fl_job fl_jobLast fl_refusals fl_notes : Nat → Int32) (fl_callsDone fl_sentInAll : Int32) (mm_keptRow mm_keptMany mm_keptOn mm_keptCall mm_keptRefusals mm_keptWhys mm_keptMinutes : Nat → Int32) (mm_allSent : Int32) : Prop :=
  (∀ D, D < d → MT D D W bk sg T tF tV tU tS Pn pW pS pT pL hn hW hD hF hT C cs cn cw cN cm cY ord mm_refuses (E D)) ∧ RF bk (iterS E d) fl_lists fl_listSize fl_job fl_jobLast fl_refusals fl_notes ∧ isN C cY d n ∧ fl_callsDone = nI n ∧ fl_sentInAll = nI (iterS E d).2.2.2.2.2 ∧ mm_allSent = nI (iterS E d).2.2.2.2.2 ∧ RK bk d (iterS E d) mm_keptRow mm_keptMany mm_keptOn mm_keptCall mm_keptRefusals mm_keptWhys mm_keptMinutes
theorem p_morning {d n : Nat} {W : Nat} {bk sg : Nat → Nat} {T : Nat} {tF tV tU : Nat → Nat} {tS : Nat → Nat → Nat} {Pn : Nat} {pW pS pT pL : Nat → Nat} {hn : Nat} {hW hD hF hT : Nat → Nat} {C : Nat} {cs cn cw cN cm cY ord : Nat → Nat} {cr_book cr_signed cr_latestPaper cr_paperBefore cr_paperLast cr_paperTold cr_minutesHere ca_skill ca_days ca_wanted ca_named ca_minute ca_day ca_refusers ca_order ru_from ru_voted ru_undone ru_says mm_toldOn mm_fromDay mm_undoneOn mm_values mm_books mm_signed mm_paperWorker mm_paperSkill mm_paperTold mm_paperLast mm_hereWorker mm_hereDay mm_hereFrom mm_hereTo mm_callSkill mm_callDays mm_callWanted mm_callName mm_callMinute mm_callDay mm_refuses : Nat → Int32} {cr_size cr_papers cr_heres ca_size ru_texts mm_texts mm_workers mm_papers mm_heres mm_calls : Int32} {E : Nat → EV} {fl_lists fl_listSize fl_job fl_jobLast fl_refusals fl_notes mm_keptRow mm_keptMany mm_keptOn mm_keptCall mm_keptRefusals mm_keptWhys mm_keptMinutes fl_laws fl_line mm_row mm_rowMany mm_isOn mm_jobLast mm_jobDays mm_jobCall mm_refusals mm_whys mm_minutes mm_snapshot : Nat → Int32} {fl_lineSize fl_clock fl_callsDone fl_sentInAll mm_allSent mm_sentMany mm_clock mm_left mm_done hh_today mm_today mm_thrown : Int32}
    {P : Int32 → (Nat → Int32) → (Nat → Int32) → (Nat → Int32) → (Nat → Int32) → (Nat → Int32) → (Nat → Int32) → (Nat → Int32) → (Nat → Int32) → Int32 → Int32 → Int32 → Int32 → Int32 → Int32 → (Nat → Int32) → (Nat → Int32) → (Nat → Int32) → (Nat → Int32) → (Nat → Int32) → (Nat → Int32) → (Nat → Int32) → (Nat → Int32) → (Nat → Int32) → Int32 → Int32 → Int32 → Int32 → (Nat → Int32) → (Nat → Int32) → (Nat → Int32) → (Nat → Int32) → (Nat → Int32) → (Nat → Int32) → (Nat → Int32) → (Nat → Int32) → Int32 → Prop}
    (hcr : R_crew d W bk sg cr_book cr_signed cr_size mm_books mm_signed mm_workers) (hru : R_rules d T tF tV tU tS ru_from ru_voted ru_undone ru_says ru_texts mm_toldOn mm_fromDay mm_undoneOn mm_values mm_texts) (hpa : R_paper d Pn pW pS pT pL cr_latestPaper cr_paperBefore cr_paperLast cr_paperTold cr_papers mm_paperWorker mm_paperSkill mm_paperTold mm_paperLast mm_papers) (hhe : R_here hn hW hD hF hT cr_minutesHere cr_heres mm_hereWorker mm_hereDay mm_hereFrom mm_hereTo mm_heres) (hca : R_calls d W C sg cs cn cw cN cm cY ord ca_skill ca_days ca_wanted ca_named ca_minute ca_day ca_refusers ca_order ca_size mm_callSkill mm_callDays mm_callWanted mm_callName mm_callMinute mm_callDay mm_refuses mm_calls) (hfl : R_flo d W bk sg T tF tV tU tS Pn pW pS pT pL hn hW hD hF hT C cs cn cw cN cm cY ord E n mm_refuses fl_lists fl_listSize fl_job fl_jobLast fl_refusals fl_notes fl_callsDone fl_sentInAll mm_keptRow mm_keptMany mm_keptOn mm_keptCall mm_keptRefusals mm_keptWhys mm_keptMinutes mm_allSent) (hd : d < 100) (e1 : hh_today = nI d) (e2 : mm_today = nI d)
    (h0 : P hh_today fl_lists fl_listSize fl_job fl_jobLast fl_refusals fl_notes fl_laws fl_line fl_lineSize fl_clock fl_callsDone fl_sentInAll 0 mm_today mm_row mm_rowMany mm_isOn mm_jobLast mm_jobDays mm_jobCall mm_refusals mm_whys mm_minutes mm_sentMany mm_clock mm_left mm_done mm_snapshot mm_keptWhys mm_keptMinutes mm_keptRow mm_keptMany mm_keptOn mm_keptCall mm_keptRefusals mm_allSent)
    (hP : ∀ (E' : Nat → EV) (n' : Nat) (f1 f2 f3 f4 f5 f6 f7 f8 : Nat → Int32) y1 y2 y3 y4 (g1 g2 g3 g4 g5 g6 g7 g8 g9 : Nat → Int32) z1 z2 z3 z4 (g10 k1 k2 k3 k4 k5 k6 k7 : Nat → Int32) z5, d < 99 → n ≤ n' → (∀ j, j / 16 < n → (iterS E' (d + 1)).2.2.2.2.1 j = (iterS E d).2.2.2.2.1 j) → R_flo (d + 1) W bk sg T tF tV tU tS Pn pW pS pT pL hn hW hD hF hT C cs cn cw cN cm cY ord E' n' mm_refuses f1 f2 f3 f4 f5 f6 y3 y4 k3 k4 k5 k6 k7 k1 k2 z5 →
      P (nI (d + 1)) f1 f2 f3 f4 f5 f6 f7 f8 y1 y2 y3 y4 0 (nI (d + 1)) g1 g2 g3 g4 g5 g6 g7 g8 g9 z1 z2 z3 z4 g10 k1 k2 k3 k4 k5 k6 k7 z5) :
    wp_X7_morning hh_today fl_lists fl_listSize fl_job fl_jobLast fl_refusals fl_notes fl_laws fl_line fl_lineSize fl_clock fl_callsDone fl_sentInAll ru_from ru_voted ru_undone ru_says ru_texts cr_book cr_signed cr_size cr_latestPaper cr_paperBefore cr_paperLast cr_paperTold cr_papers cr_minutesHere ca_skill ca_days ca_wanted ca_named ca_minute ca_day ca_refusers ca_order ca_size
      (fun r a1 a2 a3 a4 a5 a6 a7 a8 a9 a10 a11 a12 a13 => wp_X8_morning mm_thrown mm_today mm_toldOn mm_fromDay mm_undoneOn mm_values mm_texts mm_books mm_signed mm_workers mm_paperWorker mm_paperSkill mm_paperTold mm_paperLast mm_papers mm_hereWorker mm_hereDay mm_hereFrom mm_hereTo mm_heres mm_callSkill mm_callDays mm_callWanted mm_callName mm_callMinute mm_callDay mm_refuses mm_calls mm_row mm_rowMany mm_isOn mm_jobLast mm_jobDays mm_jobCall mm_refusals mm_whys mm_minutes mm_sentMany mm_clock mm_left mm_done mm_snapshot mm_keptWhys mm_keptMinutes mm_keptRow mm_keptMany mm_keptOn mm_keptCall mm_keptRefusals mm_allSent
        (fun q b1 b2 b3 b4 b5 b6 b7 b8 b9 b10 b11 b12 b13 b14 b15 b16 b17 b18 b19 b20 b21 b22 b23 b24 => r = q ∧ P a1 a2 a3 a4 a5 a6 a7 a8 a9 a10 a11 a12 a13 b1 b2 b3 b4 b5 b6 b7 b8 b9 b10 b11 b12 b13 b14 b15 b16 b17 b18 b19 b20 b21 b22 b23 b24)) := by
  subst e1 e2
  obtain ⟨hE, hF7, hN, c1, c2, c3, hKp⟩ := hfl
  subst c1 c2 c3
  have it := iter_ok (kf := fun D => D) hcr hru hpa hhe hca hd d (fun D hD => ⟨by omega, hE D hD⟩)
  have cs1 := hcr.2.1
  have cc1 := hca.1.2.1
  unfold wp_X7_morning wp_X8_morning
  refine pk_lt d 99 (fun h99 => ?_) (fun h99 => ?_)
  · obtain ⟨e, he⟩ := MT_mk (D := d) (kn := d) (W := W) (bk := bk) (sg := sg) (T := T) (tF := tF) (tV := tV) (tU := tU) (tS := tS) (Pn := Pn) (pW := pW) (pS := pS) (pT := pT) (pL := pL) (hn := hn) (hW := hW) (hD := hD) (hF := hF) (hT := hT) (C := C) (cs := cs) (cn := cn) (cw := cw) (cN := cN) (cm := cm) (cY := cY) (ord := ord) (rf := mm_refuses) hca.2.2.2.2.2.2.2.2.2.2.2.2.2 (by omega)
    have eD1 : eD e = d := he.1
    have hX := DXc_of hcr hru hpa hhe hca he hd (Nat.le_refl _) hN
    have i1 : IV (PD W sg d) (GD C cY (d + 1)) (eD e) (iterS E d) := by rw [eD1]; exact IV_mono it.1 (Nat.le_refl _) (fun c hc => ⟨hc.1, by have := hc.2; omega⟩)
    -- the days with today's put behind
    have eqD : ∀ D, D < d → (fun k => if k = d then e else E k) D = E D := fun D hD => if_neg (by omega)
    have it2 : iterS (fun k => if k = d then e else E k) d = iterS E d := iterS_congr d eqD
    have e3 : iterS (fun k => if k = d then e else E k) (d + 1) = dayS e (iterS E d) := by
      rw [iterS, it2]
      show dayS (if d = d then e else E d) (iterS E d) = _
      rw [if_pos rfl]
    have hE2 : ∀ D, D < d + 1 → MT D D W bk sg T tF tV tU tS Pn pW pS pT pL hn hW hD hF hT C cs cn cw cN cm cY ord mm_refuses ((fun k => if k = d then e else E k) D) := fun D hD' => by
      by_cases c : D = d
      · rw [c]; show MT d d W bk sg T tF tV tU tS Pn pW pS pT pL hn hW hD hF hT C cs cn cw cN cm cY ord mm_refuses (if d = d then e else E d); rw [if_pos rfl]; exact he
      · rw [eqD D (by omega)]; exact hE D (by omega)
    have dk := day_ok hcr hru hpa hhe hca he hd (Nat.le_refl _) it
    have hsaid : ∀ j (K : Int32 → Prop), j < 5 → K (nI (eLw e j)) → wp_X4_said ru_from ru_voted ru_undone ru_says ru_texts (nI j) (nI (eD e)) (nI d) K := by
      intro j K hj hK
      rw [he.2.1 j hj] at hK
      rw [eD1]
      exact said_ok hru hd (by omega) (by omega) (by omega) hK
    subst cs1 cc1
    have wk := work_c (K := fun r2 a3 a4 a5 a6 a7 a8 a9 a10 y11 y12 y13 y14 => ∀ y15 : Int32, y15 = (nI d + 1) → (fun r a1 a2 a3 a4 a5 a6 a7 a8 a9 a10 a11 a12 a13 => wp_X8_morning mm_thrown (nI d) mm_toldOn mm_fromDay mm_undoneOn mm_values mm_texts mm_books mm_signed mm_workers mm_paperWorker mm_paperSkill mm_paperTold mm_paperLast mm_papers mm_hereWorker mm_hereDay mm_hereFrom mm_hereTo mm_heres mm_callSkill mm_callDays mm_callWanted mm_callName mm_callMinute mm_callDay mm_refuses mm_calls mm_row mm_rowMany mm_isOn mm_jobLast mm_jobDays mm_jobCall mm_refusals mm_whys mm_minutes mm_sentMany mm_clock mm_left mm_done mm_snapshot mm_keptWhys mm_keptMinutes mm_keptRow mm_keptMany mm_keptOn mm_keptCall mm_keptRefusals (nI (iterS E d).2.2.2.2.2)
        (fun q b1 b2 b3 b4 b5 b6 b7 b8 b9 b10 b11 b12 b13 b14 b15 b16 b17 b18 b19 b20 b21 b22 b23 b24 => r = q ∧ P a1 a2 a3 a4 a5 a6 a7 a8 a9 a10 a11 a12 a13 b1 b2 b3 b4 b5 b6 b7 b8 b9 b10 b11 b12 b13 b14 b15 b16 b17 b18 b19 b20 b21 b22 b23 b24)) r2 y15 a3 a4 a5 a6 a7 a8 a9 a10 y11 y12 y13 y14) (laws := fl_laws) (line := fl_line) (n0 := fl_lineSize) (ck := fl_clock) hX.1 hsaid i1 hF7 (fun g1 g2 g3 g4 g5 g6 lw ln n1 ck' hF' => ?_)
    · rw [eD1] at wk
      exact wk
    · rintro _ rfl
      show wp_X8_morning mm_thrown (nI d) mm_toldOn mm_fromDay mm_undoneOn mm_values mm_texts mm_books mm_signed mm_workers mm_paperWorker mm_paperSkill mm_paperTold mm_paperLast mm_papers mm_hereWorker mm_hereDay mm_hereFrom mm_hereTo mm_heres mm_callSkill mm_callDays mm_callWanted mm_callName mm_callMinute mm_callDay mm_refuses mm_calls mm_row mm_rowMany mm_isOn mm_jobLast mm_jobDays mm_jobCall mm_refusals mm_whys mm_minutes mm_sentMany mm_clock mm_left mm_done mm_snapshot mm_keptWhys mm_keptMinutes mm_keptRow mm_keptMany mm_keptOn mm_keptCall mm_keptRefusals (nI (iterS E d).2.2.2.2.2) _
      unfold wp_X8_morning
      refine ⟨fun _ => ?_, fun q => ?_⟩
      · rw [nI_1]
        refine works_r (kf := fun D => D) (E := fun k => if k = d then e else E k) hcr hru hpa hhe hca hd (Nat.le_refl _) (fun D hD' => ⟨by omega, hE2 D hD'⟩) (Or.inl ⟨rfl, fun _ => rfl⟩) (fun r1 r2 r3 r4 r5 r6 r7 r8 r9 sm' ck2 lf2 dn2 sn2 hM' hsm => ?_)
        have hs2 := hsm (by omega)
        rw [e3, show d + 1 - 1 = d from by omega, it2] at hs2
        rw [e3] at hM'
        have W16 := hcr.1
        refine copy_r (d := d) hM' dk.1.1.1 (fun w hw => by have := ((dk.1.1.2.1 w).mp hw).1; omega) (fun kw' ki' kr' km' ko' kc' kf' hK' => ?_)
        subst hs2
        refine ⟨rfl, ?_⟩
        have sum : nI (iterS E d).2.2.2.2.2 + nI ((dayS e (iterS E d)).2.2.2.2.2 - (iterS E d).2.2.2.2.2) = nI (dayS e (iterS E d)).2.2.2.2.2 := by
          rw [nI_add]; congr 1; have := dk.2.1; omega
        rw [sum, nI_1]
        refine hP (fun k => if k = d then e else E k) (n + (eCl e).length) _ _ _ _ _ _ _ _ _ _ _ _ _ _ _ _ _ _ _ _ _ _ _ _ _ _ _ _ _ _ _ _ _ _ h99 (by omega) (fun j hj => by rw [e3]; exact dk.2.2 n j hN hj) ⟨hE2, ?_, hX.2, rfl, ?_, ?_, ?_⟩
        · rw [e3]; exact hF'
        · rw [e3]
        · rw [e3]
        · rw [e3]; exact hK'
      · exfalso
        have := (nI_eq (a := d) (b := 99) (by omega) (by omega)).mp q
        omega
  · have : d = 99 := by omega
    refine ⟨fun q => absurd (by rw [this]; rfl) q, fun _ => ⟨rfl, h0⟩⟩
