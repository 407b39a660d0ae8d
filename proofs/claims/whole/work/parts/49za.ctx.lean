/-! from the data to a day's context -/
theorem lawS_le {d T key day known : Nat} {tF tV tU : Nat → Nat} {tS : Nat → Nat → Nat} {ru_from ru_voted ru_undone ru_says mm_toldOn mm_fromDay mm_undoneOn mm_values : Nat → Int32} {ru_texts mm_texts : Int32} (hru : R_rules d T tF tV tU tS ru_from ru_voted ru_undone ru_says ru_texts mm_toldOn mm_fromDay mm_undoneOn mm_values mm_texts) (hk : key < 8) : lawS T tF tV tU tS key day known ≤ 999 := by
  unfold lawS
  cases e : lawF tF tV tU tS key day known T with
  | none => exact Nat.zero_le _
  | some t =>
    have a := lawF_lt e
    have b := hru.2.2.2.2.2.2.2.2.2.2.2.2.2 t key a.1 hk
    have c := a.2
    show tS t key ≤ 999
    omega
theorem PD_succ {D kn : Nat} {W : Nat} {bk sg : Nat → Nat} {T : Nat} {tF tV tU : Nat → Nat} {tS : Nat → Nat → Nat} {Pn : Nat} {pW pS pT pL : Nat → Nat} {hn : Nat} {hW hD hF hT : Nat → Nat} {C : Nat} {cs cn cw cN cm cY ord : Nat → Nat} {rf : Nat → Int32} {e : EV} (h : MT D kn W bk sg T tF tV tU tS Pn pW pS pT pL hn hW hD hF hT C cs cn cw cN cm cY ord rf e) (hW16 : W ≤ 16) : (∀ w, PD W sg D w → w < W ∧ eSg e w < eD e) ∧ ∀ w, PD W sg (D + 1) w ↔ (PD W sg D w ∨ (w < 16 ∧ eSg e w = eD e)) := by
  obtain ⟨a1, a2, a3, a4, -⟩ := h
  rw [a1]
  refine ⟨fun w hw => ⟨hw.1, ?_⟩, fun w => ⟨fun hw => ?_, fun hw => ?_⟩⟩
  · have a := a3 w hw.1
    have b := hw.2
    have c := a.2.mpr (by omega)
    by_cases q : eSg e w = D
    · have := a.1.mp q; omega
    · omega
  · have a := a3 w hw.1
    have b := hw.2
    by_cases q : sg w = D
    · exact Or.inr ⟨by have := hw.1; omega, a.1.mpr q⟩
    · exact Or.inl ⟨hw.1, by omega⟩
  · rcases hw with q | q
    · exact ⟨q.1, by have := q.2; omega⟩
    · have hw' : w < W := by
        by_cases t : w < W
        · exact t
        · exact absurd (by omega) (a4 w (by omega) q.1)
      have := (a3 w hw').1.mp q.2
      exact ⟨hw', by omega⟩
theorem cl_mem {C D n l : Nat} {cY cm ord : Nat → Nat} {cl : List Nat} (h1 : isN C cY D n) (h2 : isN C cY (D + 1) (n + l)) (hcl : cl = (List.range l).map (fun i => ord (n + i))) (ho : R_ord C cY cm ord) : ∀ k, k ∈ cl ↔ (k < C ∧ cY k = D) := by
  intro k
  rw [hcl, List.mem_map]
  have b1 := h2.1
  constructor
  · rintro ⟨i, hi, rfl⟩
    rw [List.mem_range] at hi
    refine ⟨ho.1 (n + i) (by omega), ?_⟩
    rw [ho.2.1 (n + i) (by omega)]
    have a := h2.2.1 (n + i) (by omega)
    have b := h1.2.2 (n + i) (by omega) (by omega)
    omega
  · rintro ⟨hk, hy⟩
    obtain ⟨i, hi, rfl⟩ := ho.2.2.2.1 k hk
    rw [ho.2.1 i hi] at hy
    have ge : n ≤ i := by
      by_cases t : n ≤ i
      · exact t
      · have := h1.2.1 i (by omega); omega
    have lt : i < n + l := by
      by_cases t : i < n + l
      · exact t
      · have := h2.2.2 i (by omega) hi; omega
    exact ⟨i - n, by rw [List.mem_range]; omega, by rw [show n + (i - n) = i from by omega]⟩
theorem cl_CLs {C D n l : Nat} {cY cm ord : Nat → Nat} {cl : List Nat} (h1 : isN C cY D n) (h2 : isN C cY (D + 1) (n + l)) (hcl : cl = (List.range l).map (fun i => ord (n + i))) (ho : R_ord C cY cm ord) : CLs C cY cm D cl := by
  have mem := cl_mem h1 h2 hcl ho
  refine ⟨mem, ?_⟩
  rw [hcl, List.pairwise_map]
  refine List.Pairwise.imp_of_mem ?_ (List.pairwise_lt_range)
  intro a b ha hb hab
  rw [List.mem_range] at ha hb
  have b1 := h2.1
  have key := ho.2.2.1 (n + a) (n + b) (by omega) (by omega)
  have ya : cY (ord (n + a)) = D := ((mem _).mp (by rw [hcl, List.mem_map]; exact ⟨a, by rw [List.mem_range]; exact ha, rfl⟩)).2
  have yb : cY (ord (n + b)) = D := ((mem _).mp (by rw [hcl, List.mem_map]; exact ⟨b, by rw [List.mem_range]; exact hb, rfl⟩)).2
  unfold kap at key
  rw [ya, yb] at key
  unfold keyS
  omega
theorem rwl_map {f : Nat → Int32} {ord : Nat → Nat} : ∀ (l n : Nat), (∀ i, n ≤ i → i < n + l → f i = nI (ord i)) → RwL f n ((List.range l).map (fun i => ord (n + i)))
  | 0, n, _ => trivial
  | l + 1, n, h => by
    rw [List.range_succ, List.map_append, RwL_app]
    refine ⟨rwl_map l n (fun i h1 h2 => h i h1 (by omega)), ?_, trivial⟩
    rw [List.length_map, List.length_range]
    exact h (n + l) (by omega) (by omega)
theorem okC_of {d D kn c : Nat} {W : Nat} {bk sg : Nat → Nat} {T : Nat} {tF tV tU : Nat → Nat} {tS : Nat → Nat → Nat} {Pn : Nat} {pW pS pT pL : Nat → Nat} {hn : Nat} {hW hD hF hT : Nat → Nat} {C : Nat} {cs cn cw cN cm cY ord : Nat → Nat} {cr_book cr_signed cr_latestPaper cr_paperBefore cr_paperLast cr_paperTold cr_minutesHere ca_skill ca_days ca_wanted ca_named ca_minute ca_day ca_refusers ca_order ru_from ru_voted ru_undone ru_says mm_toldOn mm_fromDay mm_undoneOn mm_values mm_books mm_signed mm_paperWorker mm_paperSkill mm_paperTold mm_paperLast mm_hereWorker mm_hereDay mm_hereFrom mm_hereTo mm_callSkill mm_callDays mm_callWanted mm_callName mm_callMinute mm_callDay mm_refuses : Nat → Int32} {cr_size cr_papers cr_heres ca_size ru_texts mm_texts mm_workers mm_papers mm_heres mm_calls : Int32} {e : EV} (hcr : R_crew d W bk sg cr_book cr_signed cr_size mm_books mm_signed mm_workers) (hru : R_rules d T tF tV tU tS ru_from ru_voted ru_undone ru_says ru_texts mm_toldOn mm_fromDay mm_undoneOn mm_values mm_texts) (hpa : R_paper d Pn pW pS pT pL cr_latestPaper cr_paperBefore cr_paperLast cr_paperTold cr_papers mm_paperWorker mm_paperSkill mm_paperTold mm_paperLast mm_papers) (hhe : R_here hn hW hD hF hT cr_minutesHere cr_heres mm_hereWorker mm_hereDay mm_hereFrom mm_hereTo mm_heres) (hca : R_calls d W C sg cs cn cw cN cm cY ord ca_skill ca_days ca_wanted ca_named ca_minute ca_day ca_refusers ca_order ca_size mm_callSkill mm_callDays mm_callWanted mm_callName mm_callMinute mm_callDay mm_refuses mm_calls) (h : MT D kn W bk sg T tF tV tU tS Pn pW pS pT pL hn hW hD hF hT C cs cn cw cN cm cY ord mm_refuses e) (hd : d < 100) (hDd : D ≤ d) (hc : c < C) (hy : cY c = D) : okC e c := by
  obtain ⟨a1, a2, a3, a4, a5, a6, a7, a8, a9, a10⟩ := h
  obtain ⟨r0, r1, r2, r3, r4, r5, r6, r7, r8⟩ := hca
  have b := a8 c hc hy
  rw [okC, a1, a9 c hc (by omega), b.2.1, b.2.2.2]
  exact ⟨by omega, r2.2.2 c hc, fun j hj => by rw [a2 j hj]; exact lawS_le hru (by omega), r5.2.2 c hc, r3.2.2 c hc⟩
theorem DXc_of {d D kn n : Nat} {W : Nat} {bk sg : Nat → Nat} {T : Nat} {tF tV tU : Nat → Nat} {tS : Nat → Nat → Nat} {Pn : Nat} {pW pS pT pL : Nat → Nat} {hn : Nat} {hW hD hF hT : Nat → Nat} {C : Nat} {cs cn cw cN cm cY ord : Nat → Nat} {cr_book cr_signed cr_latestPaper cr_paperBefore cr_paperLast cr_paperTold cr_minutesHere ca_skill ca_days ca_wanted ca_named ca_minute ca_day ca_refusers ca_order ru_from ru_voted ru_undone ru_says mm_toldOn mm_fromDay mm_undoneOn mm_values mm_books mm_signed mm_paperWorker mm_paperSkill mm_paperTold mm_paperLast mm_hereWorker mm_hereDay mm_hereFrom mm_hereTo mm_callSkill mm_callDays mm_callWanted mm_callName mm_callMinute mm_callDay mm_refuses : Nat → Int32} {cr_size cr_papers cr_heres ca_size ru_texts mm_texts mm_workers mm_papers mm_heres mm_calls : Int32} {e : EV} (hcr : R_crew d W bk sg cr_book cr_signed cr_size mm_books mm_signed mm_workers) (hru : R_rules d T tF tV tU tS ru_from ru_voted ru_undone ru_says ru_texts mm_toldOn mm_fromDay mm_undoneOn mm_values mm_texts) (hpa : R_paper d Pn pW pS pT pL cr_latestPaper cr_paperBefore cr_paperLast cr_paperTold cr_papers mm_paperWorker mm_paperSkill mm_paperTold mm_paperLast mm_papers) (hhe : R_here hn hW hD hF hT cr_minutesHere cr_heres mm_hereWorker mm_hereDay mm_hereFrom mm_hereTo mm_heres) (hca : R_calls d W C sg cs cn cw cN cm cY ord ca_skill ca_days ca_wanted ca_named ca_minute ca_day ca_refusers ca_order ca_size mm_callSkill mm_callDays mm_callWanted mm_callName mm_callMinute mm_callDay mm_refuses mm_calls) (h : MT D kn W bk sg T tF tV tU tS Pn pW pS pT pL hn hW hD hF hT C cs cn cw cN cm cY ord mm_refuses e) (hd : d < 100) (hDd : D ≤ d) (hn2 : isN C cY D n) :
    DXc (PD W sg D) (PD W sg (D + 1)) (GD C cY (D + 1)) W n C bk e cr_book cr_signed cr_latestPaper cr_paperBefore cr_paperLast cr_paperTold cr_minutesHere ca_skill ca_days ca_wanted ca_named ca_minute ca_day ca_refusers ca_order cr_papers ∧ isN C cY (D + 1) (n + (eCl e).length) := by
  have okc := fun c hc hy => okC_of (c := c) hcr hru hpa hhe hca h hd hDd hc hy
  have pd := PD_succ h hcr.1
  obtain ⟨a1, a2, a3, a4, a5, a6, a7, a8, a9, n', l, b1, b2, b3⟩ := h
  have : n' = n := isN_uni b1 hn2
  subst this
  obtain ⟨r0, r1, r2, r3, r4, r5, r6, r7, r8⟩ := hca
  obtain ⟨w0, w1, w2, w3, w4, w5, w6, w7, w8⟩ := hcr
  have hlen : (eCl e).length = l := by rw [b3, List.length_map, List.length_range]
  have mem := cl_mem b1 b2 b3 r8.2
  have bb := b2.1
  refine ⟨⟨⟨by rw [a1]; omega, w0, r0.1, by rw [hlen]; exact bb, fun j hj => by rw [a2 j hj]; exact lawS_le hru (by omega)⟩, pd.1, pd.2, fun w hw => ⟨w3 w hw, w7 w hw⟩, fun w hw => ?_, fun w h1 h2 => by rw [a1]; exact a4 w h1 h2, fun c hc => ?_, fun c hc => ?_, fun w hw => a5 w hw.1 (by have := hw.2; omega), fun c w hc hw => ?_, fun w hw => ?_, ?_, ?_⟩, by rw [hlen]; exact b2⟩
  · have := w8 w hw
    rw [a1]
    exact ⟨sg w, by omega, w5 w hw, (a3 w hw).1.symm, (a3 w hw).2.symm⟩
  · have e0 := a9 c hc.1 (by have := hc.2; omega)
    have := r0.1
    rw [e0]
    exact ⟨by have := hc.1; omega, r2.1 c hc.1, (r2.2.2 c hc.1).2⟩
  · have m := (mem c).mp hc
    have b := a8 c m.1 m.2
    rw [a1, b.1, b.2.1, b.2.2.1, b.2.2.2]
    refine ⟨⟨m.1, by omega⟩, okc c m.1 m.2, by rw [r6.1 c m.1, m.2], r7.1 c m.1, r5.1 c m.1, r3.1 c m.1, (r4.1 c m.1).1, ?_⟩
    rcases r4.2 c m.1 with q | q
    · exact Or.inl q
    · exact Or.inr ⟨q.1, by have := q.2; omega⟩
  · have m := (mem c).mp hc
    have e6 := a6 c w m.1 m.2 hw.1 (by have := hw.2; omega)
    rw [a1, e6, r1.1 c m.1]
    refine ⟨fun K hK => hasPaper_cls hpa hd (by have := hw.1; omega) (r1.2.2 c m.1) (by omega) hK, ?_⟩
    have := hasN_01 (pK := fun k => 8 * pW k + pS k) (pT := pT) (pL := pL) (q := 8 * w + cs c) (day := D) Pn
    omega
  · rw [a1]
    have hs : sg w ≤ D := by have := hw.2; omega
    refine ⟨fun m K hm hK => ?_, fun m => ?_⟩
    · rw [a7 w m hw.1 hs] at hK
      exact isHere_cls hhe (by have := hw.1; omega) (by omega) (by omega) hK
    · rw [a7 w m hw.1 hs]
      have := hereN_01 (hK := fun k => 100 * hW k + hD k) (hF := hF) (hT := hT) (q := 100 * w + D) (mi := m) hn
      omega
  · rw [b3]
    exact rwl_map l n' (fun i h1 h2 => r8.1 i (by omega))
  · rw [hlen]
    by_cases t : n' + l = C
    · exact Or.inl t
    · have lt : n' + l < C := by omega
      have o1 := r8.2.1 (n' + l) lt
      have := r0.1
      have y := b2.2.2 (n' + l) (Nat.le_refl _) lt
      have ye := r8.2.2.1 (n' + l) lt
      have yd := r6.2.2 (n' + l) lt
      refine Or.inr ⟨ord (n' + l), cY (ord (n' + l)), by omega, r8.1 _ lt, by omega, by omega, r6.1 _ o1⟩
theorem DXr_of {d D kn : Nat} {W : Nat} {bk sg : Nat → Nat} {T : Nat} {tF tV tU : Nat → Nat} {tS : Nat → Nat → Nat} {Pn : Nat} {pW pS pT pL : Nat → Nat} {hn : Nat} {hW hD hF hT : Nat → Nat} {C : Nat} {cs cn cw cN cm cY ord : Nat → Nat} {cr_book cr_signed cr_latestPaper cr_paperBefore cr_paperLast cr_paperTold cr_minutesHere ca_skill ca_days ca_wanted ca_named ca_minute ca_day ca_refusers ca_order ru_from ru_voted ru_undone ru_says mm_toldOn mm_fromDay mm_undoneOn mm_values mm_books mm_signed mm_paperWorker mm_paperSkill mm_paperTold mm_paperLast mm_hereWorker mm_hereDay mm_hereFrom mm_hereTo mm_callSkill mm_callDays mm_callWanted mm_callName mm_callMinute mm_callDay mm_refuses : Nat → Int32} {cr_size cr_papers cr_heres ca_size ru_texts mm_texts mm_workers mm_papers mm_heres mm_calls : Int32} {e : EV} (hcr : R_crew d W bk sg cr_book cr_signed cr_size mm_books mm_signed mm_workers) (hru : R_rules d T tF tV tU tS ru_from ru_voted ru_undone ru_says ru_texts mm_toldOn mm_fromDay mm_undoneOn mm_values mm_texts) (hpa : R_paper d Pn pW pS pT pL cr_latestPaper cr_paperBefore cr_paperLast cr_paperTold cr_papers mm_paperWorker mm_paperSkill mm_paperTold mm_paperLast mm_papers) (hhe : R_here hn hW hD hF hT cr_minutesHere cr_heres mm_hereWorker mm_hereDay mm_hereFrom mm_hereTo mm_heres) (hca : R_calls d W C sg cs cn cw cN cm cY ord ca_skill ca_days ca_wanted ca_named ca_minute ca_day ca_refusers ca_order ca_size mm_callSkill mm_callDays mm_callWanted mm_callName mm_callMinute mm_callDay mm_refuses mm_calls) (h : MT D kn W bk sg T tF tV tU tS Pn pW pS pT pL hn hW hD hF hT C cs cn cw cN cm cY ord mm_refuses e) (hd : d < 100) (hDd : D ≤ d) (hkn : kn ≤ d) :
    DXr (PD W sg D) (PD W sg (D + 1)) (GD C cY (D + 1)) W C bk cn cY cm e mm_toldOn mm_fromDay mm_undoneOn mm_values mm_books mm_signed mm_paperWorker mm_paperSkill mm_paperTold mm_paperLast mm_hereWorker mm_hereDay mm_hereFrom mm_hereTo mm_callSkill mm_callDays mm_callWanted mm_callName mm_callMinute mm_callDay mm_refuses mm_texts (nI kn) mm_papers mm_heres := by
  have okc := fun c hc hy => okC_of (c := c) hcr hru hpa hhe hca h hd hDd hc hy
  have pd := PD_succ h hcr.1
  obtain ⟨a1, a2, a3, a4, a5, a6, a7, a8, a9, n', l, b1, b2, b3⟩ := h
  obtain ⟨r0, r1, r2, r3, r4, r5, r6, r7, r8⟩ := hca
  obtain ⟨w0, w1, w2, w3, w4, w5, w6, w7, w8⟩ := hcr
  have cls := cl_CLs b1 b2 b3 r8.2
  have mem := cls.1
  refine ⟨⟨by rw [a1]; omega, w0, r0.1, fun j hj => by rw [a2 j hj]; exact lawS_le hru (by omega)⟩, pd.1, pd.2, fun w hw => ⟨w4 w hw, w7 w hw⟩, fun w hw => ?_, fun w h1 h2 => by rw [a1]; exact a4 w h1 h2, fun c hc => ?_, fun c hc => ?_, fun w hw => a5 w hw.1 (by have := hw.2; omega), fun c w hc hw => ?_, fun w hw => ?_, fun j K hj hK => ?_, by rw [a1]; exact cls, r5.2.1, r6.2.1, fun k hk => ⟨by have := r6.2.2 k hk; omega, r5.2.2 k hk⟩⟩
  · have := w8 w hw
    rw [a1]
    exact ⟨sg w, by omega, w6 w hw, (a3 w hw).1.symm, (a3 w hw).2.symm⟩
  · have e0 := a9 c hc.1 (by have := hc.2; omega)
    have := r0.1
    rw [e0]
    exact ⟨by have := hc.1; omega, rfl, (r2.2.2 c hc.1).2⟩
  · have m := (mem c).mp hc
    have b := a8 c m.1 m.2
    have e0 := a9 c m.1 (by omega)
    rw [e0, b.1, b.2.1, b.2.2.1, b.2.2.2]
    refine ⟨⟨m.1, by omega⟩, okc c m.1 m.2, r2.2.1 c m.1, rfl, r5.2.1 c m.1, r3.2.1 c m.1, (r4.1 c m.1).2, ?_⟩
    rcases r4.2 c m.1 with q | q
    · exact Or.inl q
    · exact Or.inr ⟨q.1, by have := q.2; omega⟩
  · have m := (mem c).mp hc
    have e6 := a6 c w m.1 m.2 hw.1 (by have := hw.2; omega)
    rw [a1, e6, r1.2.1 c m.1]
    refine ⟨fun K hK => hasPaper_ref hpa hd (by have := hw.1; omega) (r1.2.2 c m.1) (by omega) hK, ?_⟩
    have := hasN_01 (pK := fun k => 8 * pW k + pS k) (pT := pT) (pL := pL) (q := 8 * w + cs c) (day := D) Pn
    omega
  · rw [a1]
    have hs : sg w ≤ D := by have := hw.2; omega
    refine ⟨fun m K hm hK => ?_, fun m => ?_⟩
    · rw [a7 w m hw.1 hs] at hK
      exact isHere_ref hhe (by have := hw.1; omega) (by omega) (by omega) hK
    · rw [a7 w m hw.1 hs]
      have := hereN_01 (hK := fun k => 100 * hW k + hD k) (hF := hF) (hT := hT) (q := 100 * w + D) (mi := m) hn
      omega
  · rw [a2 j hj] at hK
    rw [a1]
    exact lawOf_ok hru hd (by omega) (by omega) (by omega) hK
