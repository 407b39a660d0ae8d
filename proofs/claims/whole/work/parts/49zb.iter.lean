/-! the days one after another -/
theorem askS_at {e : EV} {c w j : Nat} {x : FS × Nat × Nat} (h : j ≠ 16 * c + w) : (askS e c w x).1.2.2.2.2.1 j = x.1.2.2.2.2.1 j := by
  by_cases c4 : whyS e x.1 c w x.2.1 = 4
  · by_cases cl : limB e (x.1.2.2.2.1 w + 1) = true
    · rw [ask_4t c4 cl]; exact ap_n h
    · rw [ask_4f c4 cl]; exact ap_n h
  · by_cases c5 : whyS e x.1 c w x.2.1 = 5
    · rw [ask_5 c5]; exact ap_n h
    · rw [ask_o c4 c5]; exact ap_n h
theorem askL_np {P : Nat → Prop} {e : EV} {c j : Nat} (hP : ∀ w, P w → w < 16) (hj : ¬ P (j % 16)) : ∀ (l : List Nat) (x : FS × Nat × Nat), (∀ w, w ∈ l → P w) → (askL e c l x).2.2.2.2.1 j = x.1.2.2.2.2.1 j
  | [], x, _ => rfl
  | w :: l, x, hl => by
    rw [askL]
    have hw := hl w List.mem_cons_self
    by_cases z : x.2.2 = 0
    · rw [if_pos z]
    · rw [if_neg z, askL_np hP hj l _ (fun v hv => hl v (List.mem_cons_of_mem _ hv)), askS_at]
      intro q
      apply hj
      have := hP w hw
      rw [q, show (16 * c + w) % 16 = w from by omega]
      exact hw
theorem clS_np {P G : Nat → Prop} {lo c j : Nat} {e : EV} {s : FS} (hP : ∀ w, P w → w < 16) (hI : IV P G lo s) (hf : firstS e c ≠ 1000 → P (firstS e c)) (hs : ∀ w, w < 16 → eSg e w ≤ eD e → P w) (hj : ¬ P (j % 16)) : (clS e s c).2.2.2.2.1 j = s.2.2.2.2.1 j := by
  have lq := lineQ_ok (e := e) (c := c) hI.1 hI.2.1 hf
  unfold clS
  rw [askL_np hP hj _ _ lq.2]
  show noteS e c s.2.2.2.2.1 j = s.2.2.2.2.1 j
  unfold noteS
  rw [if_neg (fun q => hj (hs (j % 16) (by omega) q.2))]
theorem fold_np {P G : Nat → Prop} {lo j : Nat} {e : EV} (hP : ∀ w, P w → w < 16) (hlo : lo ≤ eD e + 1) (hs : ∀ w, w < 16 → eSg e w ≤ eD e → P w) (hj : ¬ P (j % 16)) : ∀ (l : List Nat) (s : FS), IV P G lo s → (∀ c, c ∈ l → G c ∧ okC e c ∧ (eCf e c 2 = 1000 ∨ P (eCf e c 2))) → (l.foldl (clS e) s).2.2.2.2.1 j = s.2.2.2.2.1 j
  | [], s, _, _ => rfl
  | c :: l, s, hI, hl => by
    have h := hl c List.mem_cons_self
    have hf : firstS e c ≠ 1000 → P (firstS e c) := by
      unfold firstS
      split
      · exact fun q => h.2.2.resolve_left q
      · exact fun q => absurd rfl q
    have a := clS_ok hP hI h.1 hlo h.2.1 hf
    rw [List.foldl_cons, fold_np hP hlo hs hj l (clS e s c) a.1 (fun x hx => hl x (List.mem_cons_of_mem _ hx)), clS_np hP hI hf hs hj]
/-- what holds after the days before m -/
def IT (W : Nat) (sg : Nat → Nat) (C : Nat) (cY : Nat → Nat) (m : Nat) (s : FS) : Prop :=
  IV (PD W sg m) (GD C cY m) m s ∧ (∀ j, ¬ PD W sg m (j % 16) → s.2.2.2.2.1 j = 0) ∧ ∀ n, isN C cY m n → ∀ j, n ≤ j / 16 → s.2.2.2.2.1 j = 0
theorem day_ok {d D kn : Nat} {W : Nat} {bk sg : Nat → Nat} {T : Nat} {tF tV tU : Nat → Nat} {tS : Nat → Nat → Nat} {Pn : Nat} {pW pS pT pL : Nat → Nat} {hn : Nat} {hW hD hF hT : Nat → Nat} {C : Nat} {cs cn cw cN cm cY ord : Nat → Nat} {cr_book cr_signed cr_latestPaper cr_paperBefore cr_paperLast cr_paperTold cr_minutesHere ca_skill ca_days ca_wanted ca_named ca_minute ca_day ca_refusers ca_order ru_from ru_voted ru_undone ru_says mm_toldOn mm_fromDay mm_undoneOn mm_values mm_books mm_signed mm_paperWorker mm_paperSkill mm_paperTold mm_paperLast mm_hereWorker mm_hereDay mm_hereFrom mm_hereTo mm_callSkill mm_callDays mm_callWanted mm_callName mm_callMinute mm_callDay mm_refuses : Nat → Int32} {cr_size cr_papers cr_heres ca_size ru_texts mm_texts mm_workers mm_papers mm_heres mm_calls : Int32} {e : EV} {s : FS} (hcr : R_crew d W bk sg cr_book cr_signed cr_size mm_books mm_signed mm_workers) (hru : R_rules d T tF tV tU tS ru_from ru_voted ru_undone ru_says ru_texts mm_toldOn mm_fromDay mm_undoneOn mm_values mm_texts) (hpa : R_paper d Pn pW pS pT pL cr_latestPaper cr_paperBefore cr_paperLast cr_paperTold cr_papers mm_paperWorker mm_paperSkill mm_paperTold mm_paperLast mm_papers) (hhe : R_here hn hW hD hF hT cr_minutesHere cr_heres mm_hereWorker mm_hereDay mm_hereFrom mm_hereTo mm_heres) (hca : R_calls d W C sg cs cn cw cN cm cY ord ca_skill ca_days ca_wanted ca_named ca_minute ca_day ca_refusers ca_order ca_size mm_callSkill mm_callDays mm_callWanted mm_callName mm_callMinute mm_callDay mm_refuses mm_calls) (h : MT D kn W bk sg T tF tV tU tS Pn pW pS pT pL hn hW hD hF hT C cs cn cw cN cm cY ord mm_refuses e) (hd : d < 100) (hDd : D ≤ d) (hI : IT W sg C cY D s) :
    IT W sg C cY (D + 1) (dayS e s) ∧ s.2.2.2.2.2 ≤ (dayS e s).2.2.2.2.2 ∧ (∀ n j, isN C cY D n → j / 16 < n → (dayS e s).2.2.2.2.1 j = s.2.2.2.2.1 j) := by
  have okc := fun c hc hy => okC_of (c := c) hcr hru hpa hhe hca h hd hDd hc hy
  have pd := PD_succ h hcr.1
  have W16 := hcr.1
  have P16 : ∀ D w, PD W sg D w → w < 16 := fun D w hw => by have := hw.1; omega
  obtain ⟨a1, a2, a3, a4, a5, a6, a7, a8, a9, n, l, b1, b2, b3⟩ := h
  obtain ⟨r0, r1, r2, r3, r4, r5, r6, r7, r8⟩ := hca
  have mem := cl_mem b1 b2 b3 r8.2
  have i1 : IV (PD W sg D) (GD C cY (D + 1)) (eD e) s := by rw [a1]; exact IV_mono hI.1 (Nat.le_refl _) (fun c hc => ⟨hc.1, by have := hc.2; omega⟩)
  have dw := dawn_IV (P' := PD W sg (D + 1)) (P16 D) pd.2 i1
  have dm := dawn_more (e := e) i1
  have hcl : ∀ c, c ∈ eCl e → GD C cY (D + 1) c ∧ okC e c ∧ (eCf e c 2 = 1000 ∨ PD W sg (D + 1) (eCf e c 2)) := by
    intro c hc
    have m := (mem c).mp hc
    refine ⟨⟨m.1, by omega⟩, okc c m.1 m.2, ?_⟩
    rw [(a8 c m.1 m.2).2.2.1]
    rcases r4.2 c m.1 with q | q
    · exact Or.inl q
    · exact Or.inr ⟨q.1, by have := q.2; omega⟩
  have f1 := fold_ok (P16 (D + 1)) (Nat.le_refl _) (eCl e) (dawnS e s) dw hcl
  have hs : ∀ w, w < 16 → eSg e w ≤ eD e → PD W sg (D + 1) w := by
    intro w hw hq
    rw [a1] at hq
    have hwW : w < W := by
      by_cases t : w < W
      · exact t
      · exact absurd hq (a4 w (by omega) hw)
    have := (a3 w hwW).2.mp hq
    exact ⟨hwW, by omega⟩
  have f2 := fun j hj => fold_np (j := j) (P16 (D + 1)) (Nat.le_refl _) hs hj (eCl e) (dawnS e s) dw hcl
  rw [dm] at f1
  refine ⟨⟨by have := f1.1; rw [a1] at this; exact this, fun j hj => ?_, fun n' hn' j hj => ?_⟩, f1.2.1, fun n' j hn' hj => ?_⟩
  · show ((eCl e).foldl (clS e) (dawnS e s)).2.2.2.2.1 j = 0
    rw [f2 j hj, dm]
    exact hI.2.1 j (fun q => hj ⟨q.1, by have := q.2; omega⟩)
  · have e1 := isN_uni hn' b2
    show ((eCl e).foldl (clS e) (dawnS e s)).2.2.2.2.1 j = 0
    rw [f1.2.2 j (fun q => ?_)]
    · exact hI.2.2 n b1 j (by omega)
    · rw [b3, List.mem_map] at q
      obtain ⟨i, hi, q⟩ := q
      rw [List.mem_range] at hi
      have m := (mem (j / 16)).mp (by rw [b3, List.mem_map]; exact ⟨i, by rw [List.mem_range]; exact hi, q⟩)
      have := b2.2.2 (j / 16) (by omega) m.1
      omega
  · have e1 := isN_uni hn' b1
    show ((eCl e).foldl (clS e) (dawnS e s)).2.2.2.2.1 j = _
    rw [f1.2.2 j (fun q => ?_)]
    have m := (mem (j / 16)).mp q
    have := b1.2.1 (j / 16) (by omega)
    omega
theorem fsI_ok {W : Nat} {sg : Nat → Nat} {C : Nat} {cY : Nat → Nat} : IT W sg C cY 0 fsI :=
  ⟨⟨List.nodup_nil, fun w => ⟨fun q => absurd q List.not_mem_nil, fun q => by have := q.2; omega⟩, fun w hw => absurd rfl hw, fun j => by show 0 < 160000; omega⟩, fun _ _ => rfl, fun _ _ _ _ => rfl⟩
theorem iter_ok {d : Nat} {W : Nat} {bk sg : Nat → Nat} {T : Nat} {tF tV tU : Nat → Nat} {tS : Nat → Nat → Nat} {Pn : Nat} {pW pS pT pL : Nat → Nat} {hn : Nat} {hW hD hF hT : Nat → Nat} {C : Nat} {cs cn cw cN cm cY ord : Nat → Nat} {cr_book cr_signed cr_latestPaper cr_paperBefore cr_paperLast cr_paperTold cr_minutesHere ca_skill ca_days ca_wanted ca_named ca_minute ca_day ca_refusers ca_order ru_from ru_voted ru_undone ru_says mm_toldOn mm_fromDay mm_undoneOn mm_values mm_books mm_signed mm_paperWorker mm_paperSkill mm_paperTold mm_paperLast mm_hereWorker mm_hereDay mm_hereFrom mm_hereTo mm_callSkill mm_callDays mm_callWanted mm_callName mm_callMinute mm_callDay mm_refuses : Nat → Int32} {cr_size cr_papers cr_heres ca_size ru_texts mm_texts mm_workers mm_papers mm_heres mm_calls : Int32} {E : Nat → EV} {kf : Nat → Nat} (hcr : R_crew d W bk sg cr_book cr_signed cr_size mm_books mm_signed mm_workers) (hru : R_rules d T tF tV tU tS ru_from ru_voted ru_undone ru_says ru_texts mm_toldOn mm_fromDay mm_undoneOn mm_values mm_texts) (hpa : R_paper d Pn pW pS pT pL cr_latestPaper cr_paperBefore cr_paperLast cr_paperTold cr_papers mm_paperWorker mm_paperSkill mm_paperTold mm_paperLast mm_papers) (hhe : R_here hn hW hD hF hT cr_minutesHere cr_heres mm_hereWorker mm_hereDay mm_hereFrom mm_hereTo mm_heres) (hca : R_calls d W C sg cs cn cw cN cm cY ord ca_skill ca_days ca_wanted ca_named ca_minute ca_day ca_refusers ca_order ca_size mm_callSkill mm_callDays mm_callWanted mm_callName mm_callMinute mm_callDay mm_refuses mm_calls) (hd : d < 100) : ∀ m, (∀ D, D < m → D ≤ d ∧ MT D (kf D) W bk sg T tF tV tU tS Pn pW pS pT pL hn hW hD hF hT C cs cn cw cN cm cY ord mm_refuses (E D)) → IT W sg C cY m (iterS E m)
  | 0, _ => fsI_ok
  | m + 1, hE => by
    have ih := iter_ok hcr hru hpa hhe hca hd m (fun D hD => hE D (by omega))
    have e := hE m (by omega)
    exact (day_ok hcr hru hpa hhe hca e.2 hd e.1 ih).1
theorem iterS_congr {E E' : Nat → EV} : ∀ m, (∀ D, D < m → E D = E' D) → iterS E m = iterS E' m
  | 0, _ => rfl
  | m + 1, h => by rw [iterS, iterS, iterS_congr m (fun D hD => h D (by omega)), h m (by omega)]
