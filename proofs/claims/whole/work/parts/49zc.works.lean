/-! the reference works all the days anew -/
theorem works_r {d u : Nat} {W : Nat} {bk sg : Nat → Nat} {T : Nat} {tF tV tU : Nat → Nat} {tS : Nat → Nat → Nat} {Pn : Nat} {pW pS pT pL : Nat → Nat} {hn : Nat} {hW hD hF hT : Nat → Nat} {C : Nat} {cs cn cw cN cm cY ord : Nat → Nat} {cr_book cr_signed cr_latestPaper cr_paperBefore cr_paperLast cr_paperTold cr_minutesHere ca_skill ca_days ca_wanted ca_named ca_minute ca_day ca_refusers ca_order ru_from ru_voted ru_undone ru_says mm_toldOn mm_fromDay mm_undoneOn mm_values mm_books mm_signed mm_paperWorker mm_paperSkill mm_paperTold mm_paperLast mm_hereWorker mm_hereDay mm_hereFrom mm_hereTo mm_callSkill mm_callDays mm_callWanted mm_callName mm_callMinute mm_callDay mm_refuses : Nat → Int32} {cr_size cr_papers cr_heres ca_size ru_texts mm_texts mm_workers mm_papers mm_heres mm_calls : Int32} {E : Nat → EV} {kf : Nat → Nat} {row many on jl jd jc rf wy mi sn : Nat → Int32} {sm ck lf dn x2 : Int32} {K : (Nat → Int32) → (Nat → Int32) → (Nat → Int32) → (Nat → Int32) → (Nat → Int32) → (Nat → Int32) → (Nat → Int32) → (Nat → Int32) → (Nat → Int32) → Int32 → Int32 → Int32 → Int32 → (Nat → Int32) → Prop} (hcr : R_crew d W bk sg cr_book cr_signed cr_size mm_books mm_signed mm_workers) (hru : R_rules d T tF tV tU tS ru_from ru_voted ru_undone ru_says ru_texts mm_toldOn mm_fromDay mm_undoneOn mm_values mm_texts) (hpa : R_paper d Pn pW pS pT pL cr_latestPaper cr_paperBefore cr_paperLast cr_paperTold cr_papers mm_paperWorker mm_paperSkill mm_paperTold mm_paperLast mm_papers) (hhe : R_here hn hW hD hF hT cr_minutesHere cr_heres mm_hereWorker mm_hereDay mm_hereFrom mm_hereTo mm_heres) (hca : R_calls d W C sg cs cn cw cN cm cY ord ca_skill ca_days ca_wanted ca_named ca_minute ca_day ca_refusers ca_order ca_size mm_callSkill mm_callDays mm_callWanted mm_callName mm_callMinute mm_callDay mm_refuses mm_calls) (hd : d < 100) (hu : u ≤ d + 1)
    (hE : ∀ D, D < u → D ≤ d ∧ MT D (kf D) W bk sg T tF tV tU tS Pn pW pS pT pL hn hW hD hF hT C cs cn cw cN cm cY ord mm_refuses (E D)) (hkf : (x2 = -1 ∧ ∀ D, kf D = D) ∨ (¬ x2 = -1 ∧ ∃ k, k ≤ d ∧ x2 = nI k ∧ ∀ D, kf D = k))
    (hK : ∀ g1 g2 g3 g4 g5 g6 g7 g8 g9 sm' ck' lf' dn' sn', RM bk cn (iterS E u) g1 g2 g3 g4 g5 g6 g7 g8 g9 → (0 < u → sm' = nI ((iterS E u).2.2.2.2.2 - (iterS E (u - 1)).2.2.2.2.2)) → K g1 g2 g3 g4 g5 g6 g7 g8 g9 sm' ck' lf' dn' sn') :
    wp_X8_works mm_toldOn mm_fromDay mm_undoneOn mm_values mm_texts mm_books mm_signed mm_workers mm_paperWorker mm_paperSkill mm_paperTold mm_paperLast mm_papers mm_hereWorker mm_hereDay mm_hereFrom mm_hereTo mm_heres mm_callSkill mm_callDays mm_callWanted mm_callName mm_callMinute mm_callDay mm_refuses mm_calls row many on jl jd jc rf wy mi sm ck lf dn sn (nI u) x2 K := by
  have hw1 := hcr.2.2.1
  have hc1 := hca.1.2.2
  subst hw1 hc1
  have days : ∀ m D (row many on jl jd jc rf wy mi sn : Nat → Int32) (sm ck lf dn : Int32), D + m = u → RM bk cn (iterS E D) row many on jl jd jc rf wy mi → (0 < D → sm = nI ((iterS E D).2.2.2.2.2 - (iterS E (D - 1)).2.2.2.2.2)) →
      wp_X8_works_b86 K mm_toldOn mm_fromDay mm_undoneOn mm_values mm_texts mm_books mm_signed (nI W) mm_paperWorker mm_paperSkill mm_paperTold mm_paperLast mm_papers mm_hereWorker mm_hereDay mm_hereFrom mm_hereTo mm_heres mm_callSkill mm_callDays mm_callWanted mm_callName mm_callMinute mm_callDay mm_refuses (nI C) (nI u) x2 (m + 1) row many on jl jd jc rf wy mi sm ck lf dn sn (nI D) := by
    intro m
    induction m with
    | zero =>
      intro D row many on jl jd jc rf wy mi sn sm ck lf dn hD hM hsm
      rw [wp_X8_works_b86]
      have : D = u := by omega
      subst this
      exact pk_le D D (fun _ => hK _ _ _ _ _ _ _ _ _ _ _ _ _ _ hM hsm) (fun q => by omega)
    | succ m ih =>
      intro D row many on jl jd jc rf wy mi sn sm ck lf dn hD hM hsm
      have e := hE D (by omega)
      have it := iter_ok hcr hru hpa hhe hca hd D (fun D' hD' => hE D' (by omega))
      have hkn : kf D ≤ d := by
        rcases hkf with q | ⟨-, k, k1, -, k3⟩
        · rw [q.2 D]; exact e.1
        · rw [k3 D]; exact k1
      have hX := DXr_of hcr hru hpa hhe hca e.2 hd e.1 hkn
      have eD1 : eD (E D) = D := e.2.1
      have i1 : IV (PD W sg D) (GD C cY (D + 1)) (eD (E D)) (iterS E D) := by rw [eD1]; exact IV_mono it.1 (Nat.le_refl _) (fun c hc => ⟨hc.1, by have := hc.2; omega⟩)
      have hkn2 : (x2 = -1 ∧ nI (kf D) = nI (eD (E D))) ∨ (¬ x2 = -1 ∧ nI (kf D) = x2) := by
        rcases hkf with q | ⟨q, k, k1, k2, k3⟩
        · exact Or.inl ⟨q.1, by rw [q.2 D, eD1]⟩
        · exact Or.inr ⟨q, by rw [k3 D, k2]⟩
      have hz : ∀ c, c ∈ eCl (E D) → ∀ w, w < 16 → (iterS E D).2.2.2.2.1 (16 * c + w) = 0 := by
        intro c hc w hw
        obtain ⟨-, -, -, -, -, -, -, -, -, n, l, b1, b2, b3⟩ := e.2
        have m := (cl_mem b1 b2 b3 hca.2.2.2.2.2.2.2.2.2 c).mp hc
        refine it.2.2 n b1 _ ?_
        rw [show (16 * c + w) / 16 = c from by omega]
        by_cases t : n ≤ c
        · exact t
        · have := b1.2.1 c (by omega); omega
      have body := day_r (K := K) (k86 := fun mm_row mm_rowMany mm_isOn mm_jobLast mm_jobDays mm_jobCall mm_refusals mm_whys mm_minutes mm_sentMany mm_clock mm_left mm_done mm_snapshot x3 => wp_X8_works_b86 K mm_toldOn mm_fromDay mm_undoneOn mm_values mm_texts mm_books mm_signed (nI W) mm_paperWorker mm_paperSkill mm_paperTold mm_paperLast mm_papers mm_hereWorker mm_hereDay mm_hereFrom mm_hereTo mm_heres mm_callSkill mm_callDays mm_callWanted mm_callName mm_callMinute mm_callDay mm_refuses (nI C) (nI u) x2 (m + 1) mm_row mm_rowMany mm_isOn mm_jobLast mm_jobDays mm_jobCall mm_refusals mm_whys mm_minutes mm_sentMany mm_clock mm_left mm_done mm_snapshot x3) (sm := sm) (ck := ck) (lf := lf) (dn := dn) (sn := sn) hX hkn2 i1 hz hM (fun g1 g2 g3 g4 g5 g6 g7 g8 g9 ck lf dn sn hM' => ?_)
      · rw [eD1] at body
        rw [wp_X8_works_b86]
        refine pk_le u D (fun q => by omega) (fun _ => ⟨fun q => ?_, fun q => ?_⟩)
        · rcases hkn2 with t | t
          · exact absurd t.1 q
          · rw [t.2] at body; exact body
        · rcases hkn2 with t | t
          · rw [t.2, eD1] at body; exact body
          · exact absurd q t.1
      · rw [eD1]
        exact ih (D + 1) g1 g2 g3 g4 g5 g6 g7 g8 g9 sn _ ck lf dn (by omega) hM' (fun _ => rfl)
  have b57 : ∀ m i (many on jc rf wy mi : Nat → Int32), i + m = 960 → (∀ b, b < 3 → many b = 0) → (∀ w, w < 16 → on w = 0 ∧ jc w = -1 ∧ rf w = 0) → (∀ j, j < i → wy j = 0 ∧ mi j = -1) →
      wp_X8_works_b57 K mm_toldOn mm_fromDay mm_undoneOn mm_values mm_texts mm_books mm_signed (nI W) mm_paperWorker mm_paperSkill mm_paperTold mm_paperLast mm_papers mm_hereWorker mm_hereDay mm_hereFrom mm_hereTo mm_heres mm_callSkill mm_callDays mm_callWanted mm_callName mm_callMinute mm_callDay mm_refuses (nI C) row jl jd sm ck lf dn sn (nI u) x2 (m + 1) many on jc rf wy mi (nI i) := by
    intro m
    induction m with
    | zero =>
      intro i many on jc rf wy mi hi h1 h2 h3
      rw [wp_X8_works_b57]
      have : i = 960 := by omega
      subst this
      refine pk_le 960 960 (fun _ => ⟨u + 1, ?_⟩) (fun q => by omega)
      refine days u 0 row many on jl jd jc rf wy mi sn sm ck lf dn (by omega) ⟨fun b hb => ⟨h1 b hb, trivial⟩, fun w hw => (h2 w hw).1, fun w _ q => absurd rfl q, fun w hw => (h2 w hw).2.1, fun w hw => (h2 w hw).2.2, fun j hj => h3 j hj⟩ (fun q => by omega)
    | succ m ih =>
      intro i many on jc rf wy mi hi h1 h2 h3
      rw [wp_X8_works_b57]
      refine pk_le 960 i (fun q => by omega) (fun _ => ⟨vp_in_nI (by omega) (by omega), vp_in_nI (by omega) (by omega), ?_⟩)
      rintro _ rfl
      rw [nI_1, nI_clamp (by omega)]
      refine ih (i + 1) many on jc rf _ _ (by omega) h1 h2 (fun j hj => ?_)
      by_cases c : j = i
      · subst c; rw [pk_us, pk_us]; exact ⟨rfl, rfl⟩
      · rw [pk_un c, pk_un c]; exact h3 j (by omega)
  have b22 : ∀ m i (many on jc rf : Nat → Int32), i + m = 16 → (∀ b, b < 3 → many b = 0) → (∀ w, w < i → on w = 0 ∧ jc w = -1 ∧ rf w = 0) →
      wp_X8_works_b22 K mm_toldOn mm_fromDay mm_undoneOn mm_values mm_texts mm_books mm_signed (nI W) mm_paperWorker mm_paperSkill mm_paperTold mm_paperLast mm_papers mm_hereWorker mm_hereDay mm_hereFrom mm_hereTo mm_heres mm_callSkill mm_callDays mm_callWanted mm_callName mm_callMinute mm_callDay mm_refuses (nI C) row jl jd wy mi sm ck lf dn sn (nI u) x2 (m + 1) many on jc rf (nI i) := by
    intro m
    induction m with
    | zero =>
      intro i many on jc rf hi h1 h2
      rw [wp_X8_works_b22]
      have : i = 16 := by omega
      subst this
      refine pk_le 16 16 (fun _ => ⟨961, ?_⟩) (fun q => by omega)
      exact b57 960 0 many on jc rf wy mi (by omega) h1 h2 (fun j hj => by omega)
    | succ m ih =>
      intro i many on jc rf hi h1 h2
      rw [wp_X8_works_b22]
      refine pk_le 16 i (fun q => by omega) (fun _ => ⟨vp_in_nI (by omega) (by omega), vp_in_nI (by omega) (by omega), vp_in_nI (by omega) (by omega), ?_⟩)
      rintro _ rfl
      rw [nI_1, nI_clamp (by omega), nar0]
      refine ih (i + 1) many _ _ _ (by omega) h1 (fun j hj => ?_)
      by_cases c : j = i
      · subst c; rw [pk_us, pk_us, pk_us]; exact ⟨rfl, rfl, rfl⟩
      · rw [pk_un c, pk_un c, pk_un c]; exact h2 j (by omega)
  have b2 : ∀ m i (many : Nat → Int32), i + m = 3 → (∀ b, b < i → many b = 0) →
      wp_X8_works_b2 K mm_toldOn mm_fromDay mm_undoneOn mm_values mm_texts mm_books mm_signed (nI W) mm_paperWorker mm_paperSkill mm_paperTold mm_paperLast mm_papers mm_hereWorker mm_hereDay mm_hereFrom mm_hereTo mm_heres mm_callSkill mm_callDays mm_callWanted mm_callName mm_callMinute mm_callDay mm_refuses (nI C) row on jl jd jc rf wy mi sm ck lf dn sn (nI u) x2 (m + 1) many (nI i) := by
    intro m
    induction m with
    | zero =>
      intro i many hi h1
      rw [wp_X8_works_b2]
      have : i = 3 := by omega
      subst this
      refine pk_le 3 3 (fun _ => ⟨17, ?_⟩) (fun q => by omega)
      exact b22 16 0 many on jc rf (by omega) h1 (fun j hj => by omega)
    | succ m ih =>
      intro i many hi h1
      rw [wp_X8_works_b2]
      refine pk_le 3 i (fun q => by omega) (fun _ => ⟨vp_in_nI (by omega) (by omega), ?_⟩)
      rintro _ rfl
      rw [nI_1, nI_clamp (by omega)]
      refine ih (i + 1) _ (by omega) (fun j hj => ?_)
      by_cases c : j = i
      · subst c; rw [pk_us]
      · rw [pk_un c]; exact h1 j (by omega)
  unfold wp_X8_works
  exact ⟨4, b2 3 0 many (by omega) (fun j hj => by omega)⟩
