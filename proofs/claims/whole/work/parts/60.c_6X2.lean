def rm_X2_clear : Room := { frames := 1, cells := 0, slots := 0, locals := 23 }
theorem mi_X2_clear_X2 : ∀ w ∈ wsX20, w ∈ wsX2_clear := fun _ h => List.mem_cons_of_mem _ (List.mem_append_right _ h)
set_option maxHeartbeats 4000000 in
set_option maxRecDepth 100000 in
theorem c_X2_clear (l : Launch) (D : va_G) (cI cZ : ClassId) (E : (Nat → Nat) × (Nat → Nat)) (fl_h : Nat) (fl_ad : Nat → Nat) (ru_h : Nat) (ru_ad : Nat → Nat) (cr_h : Nat) (cr_ad : Nat → Nat) (ca_h : Nat) (ca_ad : Nat → Nat) (fl_lists : (Nat → Int32)) (fl_listSize : (Nat → Int32)) (fl_job : (Nat → Int32)) (fl_jobLast : (Nat → Int32)) (fl_refusals : (Nat → Int32)) (fl_notes : (Nat → Int32)) (fl_laws : (Nat → Int32)) (fl_line : (Nat → Int32)) (fl_lineSize : Int32) (fl_clock : Int32) (fl_callsDone : Int32) (fl_sentInAll : Int32) (ru_from : (Nat → Int32)) (ru_voted : (Nat → Int32)) (ru_undone : (Nat → Int32)) (ru_says : (Nat → Int32)) (ru_texts : Int32) (ru_lines : Int32) (cr_book : (Nat → Int32)) (cr_signed : (Nat → Int32)) (cr_size : Int32) (cr_latestPaper : (Nat → Int32)) (cr_paperBefore : (Nat → Int32)) (cr_paperLast : (Nat → Int32)) (cr_paperTold : (Nat → Int32)) (cr_papers : Int32) (cr_minutesHere : (Nat → Int32)) (cr_heres : Int32) (ca_skill : (Nat → Int32)) (ca_days : (Nat → Int32)) (ca_wanted : (Nat → Int32)) (ca_named : (Nat → Int32)) (ca_minute : (Nat → Int32)) (ca_day : (Nat → Int32)) (ca_refusers : (Nat → Int32)) (ca_order : (Nat → Int32)) (ca_size : Int32)  (K : ((Nat → Int32) → (Nat → Int32) → (Nat → Int32) → (Nat → Int32) → Int32 → Int32 → Prop)) (h : wp_X2_clear fl_listSize fl_job fl_refusals fl_notes fl_callsDone fl_sentInAll  K) : mk_Cv l D cI cZ E yX2_clear wsX2_clear rm_X2_clear ([.ref fl_h] : List Value) ((wo_X2 cI cZ fl_h fl_ad ru_h cr_h ca_h fl_lists fl_listSize fl_job fl_jobLast fl_refusals fl_notes fl_laws fl_line fl_lineSize fl_clock fl_callsDone fl_sentInAll) ++ ((wo_X4 cI cZ ru_h ru_ad ru_from ru_voted ru_undone ru_says ru_texts ru_lines) ++ ((wo_X1 cI cZ cr_h cr_ad cr_book cr_signed cr_size cr_latestPaper cr_paperBefore cr_paperLast cr_paperTold cr_papers cr_minutesHere cr_heres) ++ (wo_X0 cI cZ ca_h ca_ad ca_skill ca_days ca_wanted ca_named ca_minute ca_day ca_refusers ca_order ca_size)))) (fun (u : (Nat → Int32) × (Nat → Int32) × (Nat → Int32) × (Nat → Int32) × Int32 × Int32) => ((wo_X2 cI cZ fl_h fl_ad ru_h cr_h ca_h fl_lists u.1 u.2.1 fl_jobLast u.2.2.1 u.2.2.2.1 fl_laws fl_line fl_lineSize fl_clock u.2.2.2.2.1 u.2.2.2.2.2) ++ ((wo_X4 cI cZ ru_h ru_ad ru_from ru_voted ru_undone ru_says ru_texts ru_lines) ++ ((wo_X1 cI cZ cr_h cr_ad cr_book cr_signed cr_size cr_latestPaper cr_paperBefore cr_paperLast cr_paperTold cr_papers cr_minutesHere cr_heres) ++ (wo_X0 cI cZ ca_h ca_ad ca_skill ca_days ca_wanted ca_named ca_minute ca_day ca_refusers ca_order ca_size))))) (fun (u : (Nat → Int32) × (Nat → Int32) × (Nat → Int32) × (Nat → Int32) × Int32 × Int32) => K u.1 u.2.1 u.2.2.1 u.2.2.2.1 u.2.2.2.2.1 u.2.2.2.2.2) := by
  intro sz
  refine Met.ofW (cc := cX2_clear) (maxL := 1) (ret := none) (by decide) rfl ?_
  intro p e s m args below meth c s₁ B hml hv
  obtain ⟨rfl, hsz, hP, hK, hD0, hN, hE⟩ := hv
  have hx := B.exec
  have hb := B.bytes
  have hr := B.returns
  have hts := atoms_spec (ws := wsX2_clear) B.pre
  have hown : s.vm.findClass RX2 = some m.cls := findClass_of_methodNamed B.named
  have hlocks := B.notSynchronized
  subst hsz
  have hD := hD0.self (sz := s.heap.size)
  generalize hAe : va_A ((wo_X2 cI cZ fl_h fl_ad ru_h cr_h ca_h fl_lists fl_listSize fl_job fl_jobLast fl_refusals fl_notes fl_laws fl_line fl_lineSize fl_clock fl_callsDone fl_sentInAll) ++ ((wo_X4 cI cZ ru_h ru_ad ru_from ru_voted ru_undone ru_says ru_texts ru_lines) ++ ((wo_X1 cI cZ cr_h cr_ad cr_book cr_signed cr_size cr_latestPaper cr_paperBefore cr_paperLast cr_paperTold cr_papers cr_minutesHere cr_heres) ++ (wo_X0 cI cZ ca_h ca_ad ca_skill ca_days ca_wanted ca_named ca_minute ca_day ca_refusers ca_order ca_size)))) s.heap.size = A at hD hE ⊢
  have hA : ∀ q : Nat, s.heap.size ≤ q → A q := fun q h => by rw [← hAe]; exact Or.inr h
  have hl := lv_entry ([.ref fl_h] : List Value) (n := 1) (Nat.le_of_ble_eq_true rfl)
  rw [lg_entry_eq]
  generalize (lg_sl ([.ref fl_h] : List Value) ++ List.replicate (1 - (lg_sl ([.ref fl_h] : List Value)).length) Slot.unset).toArray = ls at hl ⊢
  have hl : lv_has ls 1 [(0, .ref fl_h)] := hl
  refine mk_absQ (P := fun Q => W p l e _ s m _ below meth c s.heap [] 0 0 Q _) (fun Q hQ => ?_)
  refine mk_absH (P := fun H => W p l e _ s m _ below meth c H [] 0 0 Q _) (fun H hH => ?_)
  have hP : va_P D vwCl ((wo_X2 cI cZ fl_h fl_ad ru_h cr_h ca_h fl_lists fl_listSize fl_job fl_jobLast fl_refusals fl_notes fl_laws fl_line fl_lineSize fl_clock fl_callsDone fl_sentInAll) ++ ((wo_X4 cI cZ ru_h ru_ad ru_from ru_voted ru_undone ru_says ru_texts ru_lines) ++ ((wo_X1 cI cZ cr_h cr_ad cr_book cr_signed cr_size cr_latestPaper cr_paperBefore cr_paperLast cr_paperTold cr_papers cr_minutesHere cr_heres) ++ (wo_X0 cI cZ ca_h ca_ad ca_skill ca_days ca_wanted ca_named ca_minute ca_day ca_refusers ca_order ca_size)))) H := by rw [hH]; exact hP
  have hS : va_S A s.heap H [] := by rw [hH]; exact va_S.rf
  refine lv_aload_n hx hb dX2_clear_0 rfl (lv_at hl 0 rfl) ?_
  refine va_get (D := D) (ci := 2) (v := .ref (fl_ad 4)) (C := RX2) (T := TX2) (N := 15) hx hb hts mi_X2_clear_X2 hown hK hP 0 rfl rfl 4 (by decide) (hts (.fieldLink RX2 15 "HiringHall$Floor" "listSize" "[I") (List.mem_of_getElem? (i := 1) rfl)) (fun _ h9 => h9) rfl dX2_clear_1 ?_
  refine lv_iconst (v := 0) hx hb dX2_clear_4 (by decide) ?_
  have hP : va_P D vwCl ((((wo_X2 cI cZ fl_h fl_ad ru_h cr_h ca_h fl_lists fl_listSize fl_job fl_jobLast fl_refusals fl_notes fl_laws fl_line fl_lineSize fl_clock fl_callsDone fl_sentInAll) ++ ((wo_X4 cI cZ ru_h ru_ad ru_from ru_voted ru_undone ru_says ru_texts ru_lines) ++ ((wo_X1 cI cZ cr_h cr_ad cr_book cr_signed cr_size cr_latestPaper cr_paperBefore cr_paperLast cr_paperTold cr_papers cr_minutesHere cr_heres) ++ (wo_X0 cI cZ ca_h ca_ad ca_skill ca_days ca_wanted ca_named ca_minute ca_day ca_refusers ca_order ca_size)))).take 2) ++ (([((fl_ad 4), .inl (cI, 3, .inl fl_listSize))] : va_W) ++ (((wo_X2 cI cZ fl_h fl_ad ru_h cr_h ca_h fl_lists fl_listSize fl_job fl_jobLast fl_refusals fl_notes fl_laws fl_line fl_lineSize fl_clock fl_callsDone fl_sentInAll) ++ ((wo_X4 cI cZ ru_h ru_ad ru_from ru_voted ru_undone ru_says ru_texts ru_lines) ++ ((wo_X1 cI cZ cr_h cr_ad cr_book cr_signed cr_size cr_latestPaper cr_paperBefore cr_paperLast cr_paperTold cr_papers cr_minutesHere cr_heres) ++ (wo_X0 cI cZ ca_h ca_ad ca_skill ca_days ca_wanted ca_named ca_minute ca_day ca_refusers ca_order ca_size)))).drop 3))) H := hP
  have hD : va_D A ((((wo_X2 cI cZ fl_h fl_ad ru_h cr_h ca_h fl_lists fl_listSize fl_job fl_jobLast fl_refusals fl_notes fl_laws fl_line fl_lineSize fl_clock fl_callsDone fl_sentInAll) ++ ((wo_X4 cI cZ ru_h ru_ad ru_from ru_voted ru_undone ru_says ru_texts ru_lines) ++ ((wo_X1 cI cZ cr_h cr_ad cr_book cr_signed cr_size cr_latestPaper cr_paperBefore cr_paperLast cr_paperTold cr_papers cr_minutesHere cr_heres) ++ (wo_X0 cI cZ ca_h ca_ad ca_skill ca_days ca_wanted ca_named ca_minute ca_day ca_refusers ca_order ca_size)))).take 2) ++ (([((fl_ad 4), .inl (cI, 3, .inl fl_listSize))] : va_W) ++ (((wo_X2 cI cZ fl_h fl_ad ru_h cr_h ca_h fl_lists fl_listSize fl_job fl_jobLast fl_refusals fl_notes fl_laws fl_line fl_lineSize fl_clock fl_callsDone fl_sentInAll) ++ ((wo_X4 cI cZ ru_h ru_ad ru_from ru_voted ru_undone ru_says ru_texts ru_lines) ++ ((wo_X1 cI cZ cr_h cr_ad cr_book cr_signed cr_size cr_latestPaper cr_paperBefore cr_paperLast cr_paperTold cr_papers cr_minutesHere cr_heres) ++ (wo_X0 cI cZ ca_h ca_ad ca_skill ca_days ca_wanted ca_named ca_minute ca_day ca_refusers ca_order ca_size)))).drop 3))) := hD
  refine mk_cv (f := fun v => (((wo_X2 cI cZ fl_h fl_ad ru_h cr_h ca_h fl_lists fl_listSize fl_job fl_jobLast fl_refusals fl_notes fl_laws fl_line fl_lineSize fl_clock fl_callsDone fl_sentInAll) ++ ((wo_X4 cI cZ ru_h ru_ad ru_from ru_voted ru_undone ru_says ru_texts ru_lines) ++ ((wo_X1 cI cZ cr_h cr_ad cr_book cr_signed cr_size cr_latestPaper cr_paperBefore cr_paperLast cr_paperTold cr_papers cr_minutesHere cr_heres) ++ (wo_X0 cI cZ ca_h ca_ad ca_skill ca_days ca_wanted ca_named ca_minute ca_day ca_refusers ca_order ca_size)))).take 2) ++ (v ++ (((wo_X2 cI cZ fl_h fl_ad ru_h cr_h ca_h fl_lists fl_listSize fl_job fl_jobLast fl_refusals fl_notes fl_laws fl_line fl_lineSize fl_clock fl_callsDone fl_sentInAll) ++ ((wo_X4 cI cZ ru_h ru_ad ru_from ru_voted ru_undone ru_says ru_texts ru_lines) ++ ((wo_X1 cI cZ cr_h cr_ad cr_book cr_signed cr_size cr_latestPaper cr_paperBefore cr_paperLast cr_paperTold cr_papers cr_minutesHere cr_heres) ++ (wo_X0 cI cZ ca_h ca_ad ca_skill ca_days ca_wanted ca_named ca_minute ca_day ca_refusers ca_order ca_size)))).drop 3))) (mk_fr_mid _ _) (va_runS (As := [.ref (fl_ad 4), .int 0]) (rest := []) ⟨hx, hb, hml, hown, hts⟩ (c_fill l D cI cZ E (fl_ad 4) 3 fl_listSize 0 (by decide) H.size) (va_cwS 2 hts gX2_clear_J7_fill_53178 rfl rfl rfl (by decide +kernel) ⟨Nat.le_of_ble_eq_true rfl, Nat.le_of_ble_eq_true rfl⟩) (mk_preS (mk_fr_mid _ _) hK hN hE hS hA hP hD) rfl rfl hl.1 rfl (lv_room (Nat.le_of_ble_eq_true rfl)) dX2_clear_5 ⟨Nat.le_of_ble_eq_true rfl, Nat.le_of_ble_eq_true rfl⟩) hP hD hS hA (fun u H locs hu hP hD hS => ?_)
  subst hu
  have hP : va_P D vwCl ((wo_X2 cI cZ fl_h fl_ad ru_h cr_h ca_h fl_lists (mk_fill 3 0 fl_listSize) fl_job fl_jobLast fl_refusals fl_notes fl_laws fl_line fl_lineSize fl_clock fl_callsDone fl_sentInAll) ++ ((wo_X4 cI cZ ru_h ru_ad ru_from ru_voted ru_undone ru_says ru_texts ru_lines) ++ ((wo_X1 cI cZ cr_h cr_ad cr_book cr_signed cr_size cr_latestPaper cr_paperBefore cr_paperLast cr_paperTold cr_papers cr_minutesHere cr_heres) ++ (wo_X0 cI cZ ca_h ca_ad ca_skill ca_days ca_wanted ca_named ca_minute ca_day ca_refusers ca_order ca_size)))) H := hP
  have hD : va_D A ((wo_X2 cI cZ fl_h fl_ad ru_h cr_h ca_h fl_lists (mk_fill 3 0 fl_listSize) fl_job fl_jobLast fl_refusals fl_notes fl_laws fl_line fl_lineSize fl_clock fl_callsDone fl_sentInAll) ++ ((wo_X4 cI cZ ru_h ru_ad ru_from ru_voted ru_undone ru_says ru_texts ru_lines) ++ ((wo_X1 cI cZ cr_h cr_ad cr_book cr_signed cr_size cr_latestPaper cr_paperBefore cr_paperLast cr_paperTold cr_papers cr_minutesHere cr_heres) ++ (wo_X0 cI cZ ca_h ca_ad ca_skill ca_days ca_wanted ca_named ca_minute ca_day ca_refusers ca_order ca_size)))) := hD
  refine lv_aload_n hx hb dX2_clear_8 rfl (lv_at hl 0 rfl) ?_
  refine va_get (D := D) (ci := 2) (v := .ref (fl_ad 5)) (C := RX2) (T := TX2) (N := 15) hx hb hts mi_X2_clear_X2 hown hK hP 0 rfl rfl 5 (by decide) (hts (.fieldLink RX2 18 "HiringHall$Floor" "job" "[I") (List.mem_of_getElem? (i := 2) rfl)) (fun _ h9 => h9) rfl dX2_clear_9 ?_
  refine lv_iconst (v := (-1)) hx hb dX2_clear_12 (by decide) ?_
  have hP : va_P D vwCl ((((wo_X2 cI cZ fl_h fl_ad ru_h cr_h ca_h fl_lists (mk_fill 3 0 fl_listSize) fl_job fl_jobLast fl_refusals fl_notes fl_laws fl_line fl_lineSize fl_clock fl_callsDone fl_sentInAll) ++ ((wo_X4 cI cZ ru_h ru_ad ru_from ru_voted ru_undone ru_says ru_texts ru_lines) ++ ((wo_X1 cI cZ cr_h cr_ad cr_book cr_signed cr_size cr_latestPaper cr_paperBefore cr_paperLast cr_paperTold cr_papers cr_minutesHere cr_heres) ++ (wo_X0 cI cZ ca_h ca_ad ca_skill ca_days ca_wanted ca_named ca_minute ca_day ca_refusers ca_order ca_size)))).take 3) ++ (([((fl_ad 5), .inl (cI, 16, .inl fl_job))] : va_W) ++ (((wo_X2 cI cZ fl_h fl_ad ru_h cr_h ca_h fl_lists (mk_fill 3 0 fl_listSize) fl_job fl_jobLast fl_refusals fl_notes fl_laws fl_line fl_lineSize fl_clock fl_callsDone fl_sentInAll) ++ ((wo_X4 cI cZ ru_h ru_ad ru_from ru_voted ru_undone ru_says ru_texts ru_lines) ++ ((wo_X1 cI cZ cr_h cr_ad cr_book cr_signed cr_size cr_latestPaper cr_paperBefore cr_paperLast cr_paperTold cr_papers cr_minutesHere cr_heres) ++ (wo_X0 cI cZ ca_h ca_ad ca_skill ca_days ca_wanted ca_named ca_minute ca_day ca_refusers ca_order ca_size)))).drop 4))) H := hP
  have hD : va_D A ((((wo_X2 cI cZ fl_h fl_ad ru_h cr_h ca_h fl_lists (mk_fill 3 0 fl_listSize) fl_job fl_jobLast fl_refusals fl_notes fl_laws fl_line fl_lineSize fl_clock fl_callsDone fl_sentInAll) ++ ((wo_X4 cI cZ ru_h ru_ad ru_from ru_voted ru_undone ru_says ru_texts ru_lines) ++ ((wo_X1 cI cZ cr_h cr_ad cr_book cr_signed cr_size cr_latestPaper cr_paperBefore cr_paperLast cr_paperTold cr_papers cr_minutesHere cr_heres) ++ (wo_X0 cI cZ ca_h ca_ad ca_skill ca_days ca_wanted ca_named ca_minute ca_day ca_refusers ca_order ca_size)))).take 3) ++ (([((fl_ad 5), .inl (cI, 16, .inl fl_job))] : va_W) ++ (((wo_X2 cI cZ fl_h fl_ad ru_h cr_h ca_h fl_lists (mk_fill 3 0 fl_listSize) fl_job fl_jobLast fl_refusals fl_notes fl_laws fl_line fl_lineSize fl_clock fl_callsDone fl_sentInAll) ++ ((wo_X4 cI cZ ru_h ru_ad ru_from ru_voted ru_undone ru_says ru_texts ru_lines) ++ ((wo_X1 cI cZ cr_h cr_ad cr_book cr_signed cr_size cr_latestPaper cr_paperBefore cr_paperLast cr_paperTold cr_papers cr_minutesHere cr_heres) ++ (wo_X0 cI cZ ca_h ca_ad ca_skill ca_days ca_wanted ca_named ca_minute ca_day ca_refusers ca_order ca_size)))).drop 4))) := hD
  refine mk_cv (f := fun v => (((wo_X2 cI cZ fl_h fl_ad ru_h cr_h ca_h fl_lists (mk_fill 3 0 fl_listSize) fl_job fl_jobLast fl_refusals fl_notes fl_laws fl_line fl_lineSize fl_clock fl_callsDone fl_sentInAll) ++ ((wo_X4 cI cZ ru_h ru_ad ru_from ru_voted ru_undone ru_says ru_texts ru_lines) ++ ((wo_X1 cI cZ cr_h cr_ad cr_book cr_signed cr_size cr_latestPaper cr_paperBefore cr_paperLast cr_paperTold cr_papers cr_minutesHere cr_heres) ++ (wo_X0 cI cZ ca_h ca_ad ca_skill ca_days ca_wanted ca_named ca_minute ca_day ca_refusers ca_order ca_size)))).take 3) ++ (v ++ (((wo_X2 cI cZ fl_h fl_ad ru_h cr_h ca_h fl_lists (mk_fill 3 0 fl_listSize) fl_job fl_jobLast fl_refusals fl_notes fl_laws fl_line fl_lineSize fl_clock fl_callsDone fl_sentInAll) ++ ((wo_X4 cI cZ ru_h ru_ad ru_from ru_voted ru_undone ru_says ru_texts ru_lines) ++ ((wo_X1 cI cZ cr_h cr_ad cr_book cr_signed cr_size cr_latestPaper cr_paperBefore cr_paperLast cr_paperTold cr_papers cr_minutesHere cr_heres) ++ (wo_X0 cI cZ ca_h ca_ad ca_skill ca_days ca_wanted ca_named ca_minute ca_day ca_refusers ca_order ca_size)))).drop 4))) (mk_fr_mid _ _) (va_runS (As := [.ref (fl_ad 5), .int (-1)]) (rest := []) ⟨hx, hb, hml, hown, hts⟩ (c_fill l D cI cZ E (fl_ad 5) 16 fl_job (-1) (by decide) H.size) (va_cwS 2 hts gX2_clear_J7_fill_53178 rfl rfl rfl (by decide +kernel) ⟨Nat.le_of_ble_eq_true rfl, Nat.le_of_ble_eq_true rfl⟩) (mk_preS (mk_fr_mid _ _) hK hN hE hS hA hP hD) rfl rfl hl.1 rfl (lv_room (Nat.le_of_ble_eq_true rfl)) dX2_clear_13 ⟨Nat.le_of_ble_eq_true rfl, Nat.le_of_ble_eq_true rfl⟩) hP hD hS hA (fun u H locs hu hP hD hS => ?_)
  subst hu
  have hP : va_P D vwCl ((wo_X2 cI cZ fl_h fl_ad ru_h cr_h ca_h fl_lists (mk_fill 3 0 fl_listSize) (mk_fill 16 (-1) fl_job) fl_jobLast fl_refusals fl_notes fl_laws fl_line fl_lineSize fl_clock fl_callsDone fl_sentInAll) ++ ((wo_X4 cI cZ ru_h ru_ad ru_from ru_voted ru_undone ru_says ru_texts ru_lines) ++ ((wo_X1 cI cZ cr_h cr_ad cr_book cr_signed cr_size cr_latestPaper cr_paperBefore cr_paperLast cr_paperTold cr_papers cr_minutesHere cr_heres) ++ (wo_X0 cI cZ ca_h ca_ad ca_skill ca_days ca_wanted ca_named ca_minute ca_day ca_refusers ca_order ca_size)))) H := hP
  have hD : va_D A ((wo_X2 cI cZ fl_h fl_ad ru_h cr_h ca_h fl_lists (mk_fill 3 0 fl_listSize) (mk_fill 16 (-1) fl_job) fl_jobLast fl_refusals fl_notes fl_laws fl_line fl_lineSize fl_clock fl_callsDone fl_sentInAll) ++ ((wo_X4 cI cZ ru_h ru_ad ru_from ru_voted ru_undone ru_says ru_texts ru_lines) ++ ((wo_X1 cI cZ cr_h cr_ad cr_book cr_signed cr_size cr_latestPaper cr_paperBefore cr_paperLast cr_paperTold cr_papers cr_minutesHere cr_heres) ++ (wo_X0 cI cZ ca_h ca_ad ca_skill ca_days ca_wanted ca_named ca_minute ca_day ca_refusers ca_order ca_size)))) := hD
  refine lv_aload_n hx hb dX2_clear_16 rfl (lv_at hl 0 rfl) ?_
  refine va_get (D := D) (ci := 2) (v := .ref (fl_ad 7)) (C := RX2) (T := TX2) (N := 15) hx hb hts mi_X2_clear_X2 hown hK hP 0 rfl rfl 7 (by decide) (hts (.fieldLink RX2 24 "HiringHall$Floor" "refusals" "[I") (List.mem_of_getElem? (i := 3) rfl)) (fun _ h9 => h9) rfl dX2_clear_17 ?_
  refine lv_iconst (v := 0) hx hb dX2_clear_20 (by decide) ?_
  have hP : va_P D vwCl ((((wo_X2 cI cZ fl_h fl_ad ru_h cr_h ca_h fl_lists (mk_fill 3 0 fl_listSize) (mk_fill 16 (-1) fl_job) fl_jobLast fl_refusals fl_notes fl_laws fl_line fl_lineSize fl_clock fl_callsDone fl_sentInAll) ++ ((wo_X4 cI cZ ru_h ru_ad ru_from ru_voted ru_undone ru_says ru_texts ru_lines) ++ ((wo_X1 cI cZ cr_h cr_ad cr_book cr_signed cr_size cr_latestPaper cr_paperBefore cr_paperLast cr_paperTold cr_papers cr_minutesHere cr_heres) ++ (wo_X0 cI cZ ca_h ca_ad ca_skill ca_days ca_wanted ca_named ca_minute ca_day ca_refusers ca_order ca_size)))).take 5) ++ (([((fl_ad 7), .inl (cI, 16, .inl fl_refusals))] : va_W) ++ (((wo_X2 cI cZ fl_h fl_ad ru_h cr_h ca_h fl_lists (mk_fill 3 0 fl_listSize) (mk_fill 16 (-1) fl_job) fl_jobLast fl_refusals fl_notes fl_laws fl_line fl_lineSize fl_clock fl_callsDone fl_sentInAll) ++ ((wo_X4 cI cZ ru_h ru_ad ru_from ru_voted ru_undone ru_says ru_texts ru_lines) ++ ((wo_X1 cI cZ cr_h cr_ad cr_book cr_signed cr_size cr_latestPaper cr_paperBefore cr_paperLast cr_paperTold cr_papers cr_minutesHere cr_heres) ++ (wo_X0 cI cZ ca_h ca_ad ca_skill ca_days ca_wanted ca_named ca_minute ca_day ca_refusers ca_order ca_size)))).drop 6))) H := hP
  have hD : va_D A ((((wo_X2 cI cZ fl_h fl_ad ru_h cr_h ca_h fl_lists (mk_fill 3 0 fl_listSize) (mk_fill 16 (-1) fl_job) fl_jobLast fl_refusals fl_notes fl_laws fl_line fl_lineSize fl_clock fl_callsDone fl_sentInAll) ++ ((wo_X4 cI cZ ru_h ru_ad ru_from ru_voted ru_undone ru_says ru_texts ru_lines) ++ ((wo_X1 cI cZ cr_h cr_ad cr_book cr_signed cr_size cr_latestPaper cr_paperBefore cr_paperLast cr_paperTold cr_papers cr_minutesHere cr_heres) ++ (wo_X0 cI cZ ca_h ca_ad ca_skill ca_days ca_wanted ca_named ca_minute ca_day ca_refusers ca_order ca_size)))).take 5) ++ (([((fl_ad 7), .inl (cI, 16, .inl fl_refusals))] : va_W) ++ (((wo_X2 cI cZ fl_h fl_ad ru_h cr_h ca_h fl_lists (mk_fill 3 0 fl_listSize) (mk_fill 16 (-1) fl_job) fl_jobLast fl_refusals fl_notes fl_laws fl_line fl_lineSize fl_clock fl_callsDone fl_sentInAll) ++ ((wo_X4 cI cZ ru_h ru_ad ru_from ru_voted ru_undone ru_says ru_texts ru_lines) ++ ((wo_X1 cI cZ cr_h cr_ad cr_book cr_signed cr_size cr_latestPaper cr_paperBefore cr_paperLast cr_paperTold cr_papers cr_minutesHere cr_heres) ++ (wo_X0 cI cZ ca_h ca_ad ca_skill ca_days ca_wanted ca_named ca_minute ca_day ca_refusers ca_order ca_size)))).drop 6))) := hD
  refine mk_cv (f := fun v => (((wo_X2 cI cZ fl_h fl_ad ru_h cr_h ca_h fl_lists (mk_fill 3 0 fl_listSize) (mk_fill 16 (-1) fl_job) fl_jobLast fl_refusals fl_notes fl_laws fl_line fl_lineSize fl_clock fl_callsDone fl_sentInAll) ++ ((wo_X4 cI cZ ru_h ru_ad ru_from ru_voted ru_undone ru_says ru_texts ru_lines) ++ ((wo_X1 cI cZ cr_h cr_ad cr_book cr_signed cr_size cr_latestPaper cr_paperBefore cr_paperLast cr_paperTold cr_papers cr_minutesHere cr_heres) ++ (wo_X0 cI cZ ca_h ca_ad ca_skill ca_days ca_wanted ca_named ca_minute ca_day ca_refusers ca_order ca_size)))).take 5) ++ (v ++ (((wo_X2 cI cZ fl_h fl_ad ru_h cr_h ca_h fl_lists (mk_fill 3 0 fl_listSize) (mk_fill 16 (-1) fl_job) fl_jobLast fl_refusals fl_notes fl_laws fl_line fl_lineSize fl_clock fl_callsDone fl_sentInAll) ++ ((wo_X4 cI cZ ru_h ru_ad ru_from ru_voted ru_undone ru_says ru_texts ru_lines) ++ ((wo_X1 cI cZ cr_h cr_ad cr_book cr_signed cr_size cr_latestPaper cr_paperBefore cr_paperLast cr_paperTold cr_papers cr_minutesHere cr_heres) ++ (wo_X0 cI cZ ca_h ca_ad ca_skill ca_days ca_wanted ca_named ca_minute ca_day ca_refusers ca_order ca_size)))).drop 6))) (mk_fr_mid _ _) (va_runS (As := [.ref (fl_ad 7), .int 0]) (rest := []) ⟨hx, hb, hml, hown, hts⟩ (c_fill l D cI cZ E (fl_ad 7) 16 fl_refusals 0 (by decide) H.size) (va_cwS 2 hts gX2_clear_J7_fill_53178 rfl rfl rfl (by decide +kernel) ⟨Nat.le_of_ble_eq_true rfl, Nat.le_of_ble_eq_true rfl⟩) (mk_preS (mk_fr_mid _ _) hK hN hE hS hA hP hD) rfl rfl hl.1 rfl (lv_room (Nat.le_of_ble_eq_true rfl)) dX2_clear_21 ⟨Nat.le_of_ble_eq_true rfl, Nat.le_of_ble_eq_true rfl⟩) hP hD hS hA (fun u H locs hu hP hD hS => ?_)
  subst hu
  have hP : va_P D vwCl ((wo_X2 cI cZ fl_h fl_ad ru_h cr_h ca_h fl_lists (mk_fill 3 0 fl_listSize) (mk_fill 16 (-1) fl_job) fl_jobLast (mk_fill 16 0 fl_refusals) fl_notes fl_laws fl_line fl_lineSize fl_clock fl_callsDone fl_sentInAll) ++ ((wo_X4 cI cZ ru_h ru_ad ru_from ru_voted ru_undone ru_says ru_texts ru_lines) ++ ((wo_X1 cI cZ cr_h cr_ad cr_book cr_signed cr_size cr_latestPaper cr_paperBefore cr_paperLast cr_paperTold cr_papers cr_minutesHere cr_heres) ++ (wo_X0 cI cZ ca_h ca_ad ca_skill ca_days ca_wanted ca_named ca_minute ca_day ca_refusers ca_order ca_size)))) H := hP
  have hD : va_D A ((wo_X2 cI cZ fl_h fl_ad ru_h cr_h ca_h fl_lists (mk_fill 3 0 fl_listSize) (mk_fill 16 (-1) fl_job) fl_jobLast (mk_fill 16 0 fl_refusals) fl_notes fl_laws fl_line fl_lineSize fl_clock fl_callsDone fl_sentInAll) ++ ((wo_X4 cI cZ ru_h ru_ad ru_from ru_voted ru_undone ru_says ru_texts ru_lines) ++ ((wo_X1 cI cZ cr_h cr_ad cr_book cr_signed cr_size cr_latestPaper cr_paperBefore cr_paperLast cr_paperTold cr_papers cr_minutesHere cr_heres) ++ (wo_X0 cI cZ ca_h ca_ad ca_skill ca_days ca_wanted ca_named ca_minute ca_day ca_refusers ca_order ca_size)))) := hD
  refine lv_aload_n hx hb dX2_clear_24 rfl (lv_at hl 0 rfl) ?_
  refine va_get (D := D) (ci := 2) (v := .ref (fl_ad 8)) (C := RX2) (T := TX2) (N := 15) hx hb hts mi_X2_clear_X2 hown hK hP 0 rfl rfl 8 (by decide) (hts (.fieldLink RX2 27 "HiringHall$Floor" "notes" "[I") (List.mem_of_getElem? (i := 4) rfl)) (fun _ h9 => h9) rfl dX2_clear_25 ?_
  refine lv_iconst (v := 0) hx hb dX2_clear_28 (by decide) ?_
  have hP : va_P D vwCl ((((wo_X2 cI cZ fl_h fl_ad ru_h cr_h ca_h fl_lists (mk_fill 3 0 fl_listSize) (mk_fill 16 (-1) fl_job) fl_jobLast (mk_fill 16 0 fl_refusals) fl_notes fl_laws fl_line fl_lineSize fl_clock fl_callsDone fl_sentInAll) ++ ((wo_X4 cI cZ ru_h ru_ad ru_from ru_voted ru_undone ru_says ru_texts ru_lines) ++ ((wo_X1 cI cZ cr_h cr_ad cr_book cr_signed cr_size cr_latestPaper cr_paperBefore cr_paperLast cr_paperTold cr_papers cr_minutesHere cr_heres) ++ (wo_X0 cI cZ ca_h ca_ad ca_skill ca_days ca_wanted ca_named ca_minute ca_day ca_refusers ca_order ca_size)))).take 6) ++ (([((fl_ad 8), .inl (cI, 960, .inl fl_notes))] : va_W) ++ (((wo_X2 cI cZ fl_h fl_ad ru_h cr_h ca_h fl_lists (mk_fill 3 0 fl_listSize) (mk_fill 16 (-1) fl_job) fl_jobLast (mk_fill 16 0 fl_refusals) fl_notes fl_laws fl_line fl_lineSize fl_clock fl_callsDone fl_sentInAll) ++ ((wo_X4 cI cZ ru_h ru_ad ru_from ru_voted ru_undone ru_says ru_texts ru_lines) ++ ((wo_X1 cI cZ cr_h cr_ad cr_book cr_signed cr_size cr_latestPaper cr_paperBefore cr_paperLast cr_paperTold cr_papers cr_minutesHere cr_heres) ++ (wo_X0 cI cZ ca_h ca_ad ca_skill ca_days ca_wanted ca_named ca_minute ca_day ca_refusers ca_order ca_size)))).drop 7))) H := hP
  have hD : va_D A ((((wo_X2 cI cZ fl_h fl_ad ru_h cr_h ca_h fl_lists (mk_fill 3 0 fl_listSize) (mk_fill 16 (-1) fl_job) fl_jobLast (mk_fill 16 0 fl_refusals) fl_notes fl_laws fl_line fl_lineSize fl_clock fl_callsDone fl_sentInAll) ++ ((wo_X4 cI cZ ru_h ru_ad ru_from ru_voted ru_undone ru_says ru_texts ru_lines) ++ ((wo_X1 cI cZ cr_h cr_ad cr_book cr_signed cr_size cr_latestPaper cr_paperBefore cr_paperLast cr_paperTold cr_papers cr_minutesHere cr_heres) ++ (wo_X0 cI cZ ca_h ca_ad ca_skill ca_days ca_wanted ca_named ca_minute ca_day ca_refusers ca_order ca_size)))).take 6) ++ (([((fl_ad 8), .inl (cI, 960, .inl fl_notes))] : va_W) ++ (((wo_X2 cI cZ fl_h fl_ad ru_h cr_h ca_h fl_lists (mk_fill 3 0 fl_listSize) (mk_fill 16 (-1) fl_job) fl_jobLast (mk_fill 16 0 fl_refusals) fl_notes fl_laws fl_line fl_lineSize fl_clock fl_callsDone fl_sentInAll) ++ ((wo_X4 cI cZ ru_h ru_ad ru_from ru_voted ru_undone ru_says ru_texts ru_lines) ++ ((wo_X1 cI cZ cr_h cr_ad cr_book cr_signed cr_size cr_latestPaper cr_paperBefore cr_paperLast cr_paperTold cr_papers cr_minutesHere cr_heres) ++ (wo_X0 cI cZ ca_h ca_ad ca_skill ca_days ca_wanted ca_named ca_minute ca_day ca_refusers ca_order ca_size)))).drop 7))) := hD
  refine mk_cv (f := fun v => (((wo_X2 cI cZ fl_h fl_ad ru_h cr_h ca_h fl_lists (mk_fill 3 0 fl_listSize) (mk_fill 16 (-1) fl_job) fl_jobLast (mk_fill 16 0 fl_refusals) fl_notes fl_laws fl_line fl_lineSize fl_clock fl_callsDone fl_sentInAll) ++ ((wo_X4 cI cZ ru_h ru_ad ru_from ru_voted ru_undone ru_says ru_texts ru_lines) ++ ((wo_X1 cI cZ cr_h cr_ad cr_book cr_signed cr_size cr_latestPaper cr_paperBefore cr_paperLast cr_paperTold cr_papers cr_minutesHere cr_heres) ++ (wo_X0 cI cZ ca_h ca_ad ca_skill ca_days ca_wanted ca_named ca_minute ca_day ca_refusers ca_order ca_size)))).take 6) ++ (v ++ (((wo_X2 cI cZ fl_h fl_ad ru_h cr_h ca_h fl_lists (mk_fill 3 0 fl_listSize) (mk_fill 16 (-1) fl_job) fl_jobLast (mk_fill 16 0 fl_refusals) fl_notes fl_laws fl_line fl_lineSize fl_clock fl_callsDone fl_sentInAll) ++ ((wo_X4 cI cZ ru_h ru_ad ru_from ru_voted ru_undone ru_says ru_texts ru_lines) ++ ((wo_X1 cI cZ cr_h cr_ad cr_book cr_signed cr_size cr_latestPaper cr_paperBefore cr_paperLast cr_paperTold cr_papers cr_minutesHere cr_heres) ++ (wo_X0 cI cZ ca_h ca_ad ca_skill ca_days ca_wanted ca_named ca_minute ca_day ca_refusers ca_order ca_size)))).drop 7))) (mk_fr_mid _ _) (va_runS (As := [.ref (fl_ad 8), .int 0]) (rest := []) ⟨hx, hb, hml, hown, hts⟩ (c_fill l D cI cZ E (fl_ad 8) 960 fl_notes 0 (by decide) H.size) (va_cwS 2 hts gX2_clear_J7_fill_53178 rfl rfl rfl (by decide +kernel) ⟨Nat.le_of_ble_eq_true rfl, Nat.le_of_ble_eq_true rfl⟩) (mk_preS (mk_fr_mid _ _) hK hN hE hS hA hP hD) rfl rfl hl.1 rfl (lv_room (Nat.le_of_ble_eq_true rfl)) dX2_clear_29 ⟨Nat.le_of_ble_eq_true rfl, Nat.le_of_ble_eq_true rfl⟩) hP hD hS hA (fun u H locs hu hP hD hS => ?_)
  subst hu
  have hP : va_P D vwCl ((wo_X2 cI cZ fl_h fl_ad ru_h cr_h ca_h fl_lists (mk_fill 3 0 fl_listSize) (mk_fill 16 (-1) fl_job) fl_jobLast (mk_fill 16 0 fl_refusals) (mk_fill 960 0 fl_notes) fl_laws fl_line fl_lineSize fl_clock fl_callsDone fl_sentInAll) ++ ((wo_X4 cI cZ ru_h ru_ad ru_from ru_voted ru_undone ru_says ru_texts ru_lines) ++ ((wo_X1 cI cZ cr_h cr_ad cr_book cr_signed cr_size cr_latestPaper cr_paperBefore cr_paperLast cr_paperTold cr_papers cr_minutesHere cr_heres) ++ (wo_X0 cI cZ ca_h ca_ad ca_skill ca_days ca_wanted ca_named ca_minute ca_day ca_refusers ca_order ca_size)))) H := hP
  have hD : va_D A ((wo_X2 cI cZ fl_h fl_ad ru_h cr_h ca_h fl_lists (mk_fill 3 0 fl_listSize) (mk_fill 16 (-1) fl_job) fl_jobLast (mk_fill 16 0 fl_refusals) (mk_fill 960 0 fl_notes) fl_laws fl_line fl_lineSize fl_clock fl_callsDone fl_sentInAll) ++ ((wo_X4 cI cZ ru_h ru_ad ru_from ru_voted ru_undone ru_says ru_texts ru_lines) ++ ((wo_X1 cI cZ cr_h cr_ad cr_book cr_signed cr_size cr_latestPaper cr_paperBefore cr_paperLast cr_paperTold cr_papers cr_minutesHere cr_heres) ++ (wo_X0 cI cZ ca_h ca_ad ca_skill ca_days ca_wanted ca_named ca_minute ca_day ca_refusers ca_order ca_size)))) := hD
  refine lv_aload_n hx hb dX2_clear_32 rfl (lv_at hl 0 rfl) ?_
  refine lv_iconst (v := 0) hx hb dX2_clear_33 (by decide) ?_
  refine va_put (D := D) (ci := 2) (v := .int 0) (ty := .int) (C := RX2) (T := TX2) (N := 15) hx hb hts mi_X2_clear_X2 tyX2 tyX2_ok nmX2 hown hK hP hD hS 0 rfl rfl 13 (by decide) (hts (.fieldLink RX2 54 "HiringHall$Floor" "callsDone" "I") (List.mem_of_getElem? (i := 5) rfl)) (fun _ h9 => h9) rfl (by decide +kernel) rfl rfl (Nat.le_of_ble_eq_true rfl) dX2_clear_34 (fun H locs hP hD hS => ?_)
  have hP : va_P D vwCl ((wo_X2 cI cZ fl_h fl_ad ru_h cr_h ca_h fl_lists (mk_fill 3 0 fl_listSize) (mk_fill 16 (-1) fl_job) fl_jobLast (mk_fill 16 0 fl_refusals) (mk_fill 960 0 fl_notes) fl_laws fl_line fl_lineSize fl_clock 0 fl_sentInAll) ++ ((wo_X4 cI cZ ru_h ru_ad ru_from ru_voted ru_undone ru_says ru_texts ru_lines) ++ ((wo_X1 cI cZ cr_h cr_ad cr_book cr_signed cr_size cr_latestPaper cr_paperBefore cr_paperLast cr_paperTold cr_papers cr_minutesHere cr_heres) ++ (wo_X0 cI cZ ca_h ca_ad ca_skill ca_days ca_wanted ca_named ca_minute ca_day ca_refusers ca_order ca_size)))) H := hP
  have hD : va_D A ((wo_X2 cI cZ fl_h fl_ad ru_h cr_h ca_h fl_lists (mk_fill 3 0 fl_listSize) (mk_fill 16 (-1) fl_job) fl_jobLast (mk_fill 16 0 fl_refusals) (mk_fill 960 0 fl_notes) fl_laws fl_line fl_lineSize fl_clock 0 fl_sentInAll) ++ ((wo_X4 cI cZ ru_h ru_ad ru_from ru_voted ru_undone ru_says ru_texts ru_lines) ++ ((wo_X1 cI cZ cr_h cr_ad cr_book cr_signed cr_size cr_latestPaper cr_paperBefore cr_paperLast cr_paperTold cr_papers cr_minutesHere cr_heres) ++ (wo_X0 cI cZ ca_h ca_ad ca_skill ca_days ca_wanted ca_named ca_minute ca_day ca_refusers ca_order ca_size)))) := hD
  refine lv_aload_n hx hb dX2_clear_37 rfl (lv_at hl 0 rfl) ?_
  refine lv_iconst (v := 0) hx hb dX2_clear_38 (by decide) ?_
  refine va_put (D := D) (ci := 2) (v := .int 0) (ty := .int) (C := RX2) (T := TX2) (N := 15) hx hb hts mi_X2_clear_X2 tyX2 tyX2_ok nmX2 hown hK hP hD hS 0 rfl rfl 14 (by decide) (hts (.fieldLink RX2 58 "HiringHall$Floor" "sentInAll" "I") (List.mem_of_getElem? (i := 6) rfl)) (fun _ h9 => h9) rfl (by decide +kernel) rfl rfl (Nat.le_of_ble_eq_true rfl) dX2_clear_39 (fun H locs hP hD hS => ?_)
  have hP : va_P D vwCl ((wo_X2 cI cZ fl_h fl_ad ru_h cr_h ca_h fl_lists (mk_fill 3 0 fl_listSize) (mk_fill 16 (-1) fl_job) fl_jobLast (mk_fill 16 0 fl_refusals) (mk_fill 960 0 fl_notes) fl_laws fl_line fl_lineSize fl_clock 0 0) ++ ((wo_X4 cI cZ ru_h ru_ad ru_from ru_voted ru_undone ru_says ru_texts ru_lines) ++ ((wo_X1 cI cZ cr_h cr_ad cr_book cr_signed cr_size cr_latestPaper cr_paperBefore cr_paperLast cr_paperTold cr_papers cr_minutesHere cr_heres) ++ (wo_X0 cI cZ ca_h ca_ad ca_skill ca_days ca_wanted ca_named ca_minute ca_day ca_refusers ca_order ca_size)))) H := hP
  have hD : va_D A ((wo_X2 cI cZ fl_h fl_ad ru_h cr_h ca_h fl_lists (mk_fill 3 0 fl_listSize) (mk_fill 16 (-1) fl_job) fl_jobLast (mk_fill 16 0 fl_refusals) (mk_fill 960 0 fl_notes) fl_laws fl_line fl_lineSize fl_clock 0 0) ++ ((wo_X4 cI cZ ru_h ru_ad ru_from ru_voted ru_undone ru_says ru_texts ru_lines) ++ ((wo_X1 cI cZ cr_h cr_ad cr_book cr_signed cr_size cr_latestPaper cr_paperBefore cr_paperLast cr_paperTold cr_papers cr_minutesHere cr_heres) ++ (wo_X0 cI cZ ca_h ca_ad ca_skill ca_days ca_wanted ca_named ca_minute ca_day ca_refusers ca_order ca_size)))) := hD
  rw [hQ]
  exact W.vret hx hb hr (fun t ht hW => ⟨⟨((mk_fill 3 0 fl_listSize), (mk_fill 16 (-1) fl_job), (mk_fill 16 0 fl_refusals), (mk_fill 960 0 fl_notes), 0, 0), rfl, h, by rw [ht]; exact hP, va_K.moved hW.alike hK, hD⟩, hS.F ht⟩) hS.2.2 dX2_clear_42
def rm_X2_moveToEnd : Room := { frames := 0, cells := 0, slots := 0, locals := 0 }
theorem mi_X2_moveToEnd_X1 : ∀ w ∈ wsX10, w ∈ wsX2_moveToEnd := fun _ h => List.mem_cons_of_mem _ (List.mem_append_right _ h)
theorem mi_X2_moveToEnd_X2 : ∀ w ∈ wsX20, w ∈ wsX2_moveToEnd := fun _ h => List.mem_cons_of_mem _ (List.mem_append_left _ (List.mem_append_right _ h))
set_option maxHeartbeats 4000000 in
set_option maxRecDepth 100000 in
theorem c_X2_moveToEnd (l : Launch) (D : va_G) (cI cZ : ClassId) (E : (Nat → Nat) × (Nat → Nat)) (fl_h : Nat) (fl_ad : Nat → Nat) (ru_h : Nat) (ru_ad : Nat → Nat) (cr_h : Nat) (cr_ad : Nat → Nat) (ca_h : Nat) (ca_ad : Nat → Nat) (fl_lists : (Nat → Int32)) (fl_listSize : (Nat → Int32)) (fl_job : (Nat → Int32)) (fl_jobLast : (Nat → Int32)) (fl_refusals : (Nat → Int32)) (fl_notes : (Nat → Int32)) (fl_laws : (Nat → Int32)) (fl_line : (Nat → Int32)) (fl_lineSize : Int32) (fl_clock : Int32) (fl_callsDone : Int32) (fl_sentInAll : Int32) (ru_from : (Nat → Int32)) (ru_voted : (Nat → Int32)) (ru_undone : (Nat → Int32)) (ru_says : (Nat → Int32)) (ru_texts : Int32) (ru_lines : Int32) (cr_book : (Nat → Int32)) (cr_signed : (Nat → Int32)) (cr_size : Int32) (cr_latestPaper : (Nat → Int32)) (cr_paperBefore : (Nat → Int32)) (cr_paperLast : (Nat → Int32)) (cr_paperTold : (Nat → Int32)) (cr_papers : Int32) (cr_minutesHere : (Nat → Int32)) (cr_heres : Int32) (ca_skill : (Nat → Int32)) (ca_days : (Nat → Int32)) (ca_wanted : (Nat → Int32)) (ca_named : (Nat → Int32)) (ca_minute : (Nat → Int32)) (ca_day : (Nat → Int32)) (ca_refusers : (Nat → Int32)) (ca_order : (Nat → Int32)) (ca_size : Int32) (x1 : Int32) (K : ((Nat → Int32) → Prop)) (h : wp_X2_moveToEnd fl_lists fl_listSize cr_book x1 K) : mk_Cv l D cI cZ E yX2_moveToEnd wsX2_moveToEnd rm_X2_moveToEnd ([.ref fl_h, .int x1] : List Value) ((wo_X2 cI cZ fl_h fl_ad ru_h cr_h ca_h fl_lists fl_listSize fl_job fl_jobLast fl_refusals fl_notes fl_laws fl_line fl_lineSize fl_clock fl_callsDone fl_sentInAll) ++ ((wo_X4 cI cZ ru_h ru_ad ru_from ru_voted ru_undone ru_says ru_texts ru_lines) ++ ((wo_X1 cI cZ cr_h cr_ad cr_book cr_signed cr_size cr_latestPaper cr_paperBefore cr_paperLast cr_paperTold cr_papers cr_minutesHere cr_heres) ++ (wo_X0 cI cZ ca_h ca_ad ca_skill ca_days ca_wanted ca_named ca_minute ca_day ca_refusers ca_order ca_size)))) (fun (u : (Nat → Int32)) => ((wo_X2 cI cZ fl_h fl_ad ru_h cr_h ca_h u fl_listSize fl_job fl_jobLast fl_refusals fl_notes fl_laws fl_line fl_lineSize fl_clock fl_callsDone fl_sentInAll) ++ ((wo_X4 cI cZ ru_h ru_ad ru_from ru_voted ru_undone ru_says ru_texts ru_lines) ++ ((wo_X1 cI cZ cr_h cr_ad cr_book cr_signed cr_size cr_latestPaper cr_paperBefore cr_paperLast cr_paperTold cr_papers cr_minutesHere cr_heres) ++ (wo_X0 cI cZ ca_h ca_ad ca_skill ca_days ca_wanted ca_named ca_minute ca_day ca_refusers ca_order ca_size))))) (fun (u : (Nat → Int32)) => K u) := by
  intro sz
  refine Met.ofW (cc := cX2_moveToEnd) (maxL := 6) (ret := none) (by decide) rfl ?_
  intro p e s m args below meth c s₁ B hml hv
  obtain ⟨rfl, hsz, hP, hK, hD0, hN, hE⟩ := hv
  have hx := B.exec
  have hb := B.bytes
  have hr := B.returns
  have hts := atoms_spec (ws := wsX2_moveToEnd) B.pre
  have hown : s.vm.findClass RX2 = some m.cls := findClass_of_methodNamed B.named
  have hlocks := B.notSynchronized
  subst hsz
  have hD := hD0.self (sz := s.heap.size)
  generalize hAe : va_A ((wo_X2 cI cZ fl_h fl_ad ru_h cr_h ca_h fl_lists fl_listSize fl_job fl_jobLast fl_refusals fl_notes fl_laws fl_line fl_lineSize fl_clock fl_callsDone fl_sentInAll) ++ ((wo_X4 cI cZ ru_h ru_ad ru_from ru_voted ru_undone ru_says ru_texts ru_lines) ++ ((wo_X1 cI cZ cr_h cr_ad cr_book cr_signed cr_size cr_latestPaper cr_paperBefore cr_paperLast cr_paperTold cr_papers cr_minutesHere cr_heres) ++ (wo_X0 cI cZ ca_h ca_ad ca_skill ca_days ca_wanted ca_named ca_minute ca_day ca_refusers ca_order ca_size)))) s.heap.size = A at hD hE ⊢
  have hA : ∀ q : Nat, s.heap.size ≤ q → A q := fun q h => by rw [← hAe]; exact Or.inr h
  have hl := lv_entry ([.ref fl_h, .int x1] : List Value) (n := 6) (Nat.le_of_ble_eq_true rfl)
  rw [lg_entry_eq]
  generalize (lg_sl ([.ref fl_h, .int x1] : List Value) ++ List.replicate (6 - (lg_sl ([.ref fl_h, .int x1] : List Value)).length) Slot.unset).toArray = ls at hl ⊢
  have hl : lv_has ls 6 [(0, .ref fl_h), (1, .int x1)] := hl
  refine mk_absQ (P := fun Q => W p l e _ s m _ below meth c s.heap [] 0 0 Q _) (fun Q hQ => ?_)
  refine mk_absH (P := fun H => W p l e _ s m _ below meth c H [] 0 0 Q _) (fun H hH => ?_)
  have hP : va_P D vwCl ((wo_X2 cI cZ fl_h fl_ad ru_h cr_h ca_h fl_lists fl_listSize fl_job fl_jobLast fl_refusals fl_notes fl_laws fl_line fl_lineSize fl_clock fl_callsDone fl_sentInAll) ++ ((wo_X4 cI cZ ru_h ru_ad ru_from ru_voted ru_undone ru_says ru_texts ru_lines) ++ ((wo_X1 cI cZ cr_h cr_ad cr_book cr_signed cr_size cr_latestPaper cr_paperBefore cr_paperLast cr_paperTold cr_papers cr_minutesHere cr_heres) ++ (wo_X0 cI cZ ca_h ca_ad ca_skill ca_days ca_wanted ca_named ca_minute ca_day ca_refusers ca_order ca_size)))) H := by rw [hH]; exact hP
  have hS : va_S A s.heap H [] := by rw [hH]; exact va_S.rf
  have b58 : ∀ (k31 : ((Nat → Int32) → Int32 → Int32 → Int32 → Prop)), (∀ (fl_lists : (Nat → Int32)) (x3 : Int32) (x4 : Int32) (x5 : Int32), k31 fl_lists x3 x4 x5 → ∀ (H : Heap) (locs : List Loc) (ls : Array Slot), va_P D vwCl ((wo_X2 cI cZ fl_h fl_ad ru_h cr_h ca_h fl_lists fl_listSize fl_job fl_jobLast fl_refusals fl_notes fl_laws fl_line fl_lineSize fl_clock fl_callsDone fl_sentInAll) ++ ((wo_X4 cI cZ ru_h ru_ad ru_from ru_voted ru_undone ru_says ru_texts ru_lines) ++ ((wo_X1 cI cZ cr_h cr_ad cr_book cr_signed cr_size cr_latestPaper cr_paperBefore cr_paperLast cr_paperTold cr_papers cr_minutesHere cr_heres) ++ (wo_X0 cI cZ ca_h ca_ad ca_skill ca_days ca_wanted ca_named ca_minute ca_day ca_refusers ca_order ca_size)))) H → va_D A ((wo_X2 cI cZ fl_h fl_ad ru_h cr_h ca_h fl_lists fl_listSize fl_job fl_jobLast fl_refusals fl_notes fl_laws fl_line fl_lineSize fl_clock fl_callsDone fl_sentInAll) ++ ((wo_X4 cI cZ ru_h ru_ad ru_from ru_voted ru_undone ru_says ru_texts ru_lines) ++ ((wo_X1 cI cZ cr_h cr_ad cr_book cr_signed cr_size cr_latestPaper cr_paperBefore cr_paperLast cr_paperTold cr_papers cr_minutesHere cr_heres) ++ (wo_X0 cI cZ ca_h ca_ad ca_skill ca_days ca_wanted ca_named ca_minute ca_day ca_refusers ca_order ca_size)))) → va_S A s.heap H locs → lv_has ls 6 [(0, .ref fl_h), (1, .int x1), (3, .int x3), (4, .int x4), (5, .int x5)] → W p l e (headSpec wsX2_moveToEnd rm_X2_moveToEnd).room s m ([.ref fl_h, .int x1] : List Value).toArray below meth c H locs 0 0 Q (F0 m 31 ls [])) → ∀ (fl_lists : (Nat → Int32)) (x3 : Int32) (x4 : Int32) (x5 : Int32), wp_X2_moveToEnd_b58 K k31 x1 fl_lists x3 x4 x5 → ∀ (H : Heap) (locs : List Loc) (ls : Array Slot), va_P D vwCl ((wo_X2 cI cZ fl_h fl_ad ru_h cr_h ca_h fl_lists fl_listSize fl_job fl_jobLast fl_refusals fl_notes fl_laws fl_line fl_lineSize fl_clock fl_callsDone fl_sentInAll) ++ ((wo_X4 cI cZ ru_h ru_ad ru_from ru_voted ru_undone ru_says ru_texts ru_lines) ++ ((wo_X1 cI cZ cr_h cr_ad cr_book cr_signed cr_size cr_latestPaper cr_paperBefore cr_paperLast cr_paperTold cr_papers cr_minutesHere cr_heres) ++ (wo_X0 cI cZ ca_h ca_ad ca_skill ca_days ca_wanted ca_named ca_minute ca_day ca_refusers ca_order ca_size)))) H → va_D A ((wo_X2 cI cZ fl_h fl_ad ru_h cr_h ca_h fl_lists fl_listSize fl_job fl_jobLast fl_refusals fl_notes fl_laws fl_line fl_lineSize fl_clock fl_callsDone fl_sentInAll) ++ ((wo_X4 cI cZ ru_h ru_ad ru_from ru_voted ru_undone ru_says ru_texts ru_lines) ++ ((wo_X1 cI cZ cr_h cr_ad cr_book cr_signed cr_size cr_latestPaper cr_paperBefore cr_paperLast cr_paperTold cr_papers cr_minutesHere cr_heres) ++ (wo_X0 cI cZ ca_h ca_ad ca_skill ca_days ca_wanted ca_named ca_minute ca_day ca_refusers ca_order ca_size)))) → va_S A s.heap H locs → lv_has ls 6 [(0, .ref fl_h), (1, .int x1), (3, .int x3), (4, .int x4), (5, .int x5)] → W p l e (headSpec wsX2_moveToEnd rm_X2_moveToEnd).room s m ([.ref fl_h, .int x1] : List Value).toArray below meth c H locs 0 0 Q (F0 m 58 ls []) := by
    intro k31 hk31 fl_lists x3 x4 x5 h H locs ls hP hD hS hl
    refine lv_iload hx hb dX2_moveToEnd_58 (lv_at hl 3 rfl) ?_
    refine lv_if_ne (tgt := 74) hx hb dX2_moveToEnd_60 (by decide) (fun c_1 => ?_) (fun c_1 => ?_)
    · have h := h.1 c_1
      refine lv_iconst (v := 1) hx hb dX2_moveToEnd_74 (by decide) ?_
      refine lv_goto (tgt := 79) hx hb dX2_moveToEnd_75 (by decide) ?_
      refine lv_istore (lv' := [(4, .int 1), (0, .ref fl_h), (1, .int x1), (3, .int x3), (5, .int x5)]) hx hb dX2_moveToEnd_79 hl (by decide) rfl (fun ls hl => ?_)
      obtain ⟨y2, e_y2⟩ : ∃ y : Int32, y = x5 + 1 := ⟨_, rfl⟩
      have h := h y2 e_y2
      refine lv_iinc (v := y2) (lv' := [(5, .int y2), (4, .int 1), (0, .ref fl_h), (1, .int x1), (3, .int x3)]) hx hb dX2_moveToEnd_81 hl (k := 4) rfl (by rw [e_y2]; rfl) (by decide) rfl (fun ls hl => ?_)
      refine lv_goto (tgt := 31) hx hb dX2_moveToEnd_84 (by decide) ?_
      exact hk31 fl_lists x3 1 y2 h _ _ _ hP hD hS (lv_sub hl [2, 3, 4, 1, 0] rfl)
    · have h := h.2 c_1
      refine lv_aload_n hx hb dX2_moveToEnd_63 rfl (lv_at hl 0 rfl) ?_
      refine va_get (D := D) (ci := 2) (v := .ref (fl_ad 3)) (C := RX2) (T := TX2) (N := 15) hx hb hts mi_X2_moveToEnd_X2 hown hK hP 0 rfl rfl 3 (by decide) (hts (.fieldLink RX2 9 "HiringHall$Floor" "lists" "[I") (List.mem_of_getElem? (i := 3) rfl)) (fun _ h9 => h9) rfl dX2_moveToEnd_64 ?_
      refine lv_iload hx hb dX2_moveToEnd_67 (lv_at hl 4 rfl) ?_
      obtain ⟨hi_3, h⟩ := h
      refine va_iald hx hb hK hP 1 0 rfl rfl hi_3 dX2_moveToEnd_69 ?_
      refine lv_iload_n hx hb dX2_moveToEnd_70 rfl (lv_at hl 1 rfl) ?_
      refine lv_icmp_ne (tgt := 78) hx hb dX2_moveToEnd_71 (by decide) (fun c_4 => ?_) (fun c_4 => ?_)
      · have h := h.1 c_4
        refine lv_iconst (v := 0) hx hb dX2_moveToEnd_78 (by decide) ?_
        refine lv_istore (lv' := [(4, .int 0), (0, .ref fl_h), (1, .int x1), (3, .int x3), (5, .int x5)]) hx hb dX2_moveToEnd_79 hl (by decide) rfl (fun ls hl => ?_)
        obtain ⟨y5, e_y5⟩ : ∃ y : Int32, y = x5 + 1 := ⟨_, rfl⟩
        have h := h y5 e_y5
        refine lv_iinc (v := y5) (lv' := [(5, .int y5), (4, .int 0), (0, .ref fl_h), (1, .int x1), (3, .int x3)]) hx hb dX2_moveToEnd_81 hl (k := 4) rfl (by rw [e_y5]; rfl) (by decide) rfl (fun ls hl => ?_)
        refine lv_goto (tgt := 31) hx hb dX2_moveToEnd_84 (by decide) ?_
        exact hk31 fl_lists x3 0 y5 h _ _ _ hP hD hS (lv_sub hl [2, 3, 4, 1, 0] rfl)
      · have h := h.2 c_4
        refine lv_iconst (v := 1) hx hb dX2_moveToEnd_74 (by decide) ?_
        refine lv_goto (tgt := 79) hx hb dX2_moveToEnd_75 (by decide) ?_
        refine lv_istore (lv' := [(4, .int 1), (0, .ref fl_h), (1, .int x1), (3, .int x3), (5, .int x5)]) hx hb dX2_moveToEnd_79 hl (by decide) rfl (fun ls hl => ?_)
        obtain ⟨y6, e_y6⟩ : ∃ y : Int32, y = x5 + 1 := ⟨_, rfl⟩
        have h := h y6 e_y6
        refine lv_iinc (v := y6) (lv' := [(5, .int y6), (4, .int 1), (0, .ref fl_h), (1, .int x1), (3, .int x3)]) hx hb dX2_moveToEnd_81 hl (k := 4) rfl (by rw [e_y6]; rfl) (by decide) rfl (fun ls hl => ?_)
        refine lv_goto (tgt := 31) hx hb dX2_moveToEnd_84 (by decide) ?_
        exact hk31 fl_lists x3 1 y6 h _ _ _ hP hD hS (lv_sub hl [2, 3, 4, 1, 0] rfl)
  have b31 : ∀ (n : Nat), ∀ (fl_lists : (Nat → Int32)) (x3 : Int32) (x4 : Int32) (x5 : Int32), wp_X2_moveToEnd_b31 K x1 n fl_lists x3 x4 x5 → ∀ (H : Heap) (locs : List Loc) (ls : Array Slot), va_P D vwCl ((wo_X2 cI cZ fl_h fl_ad ru_h cr_h ca_h fl_lists fl_listSize fl_job fl_jobLast fl_refusals fl_notes fl_laws fl_line fl_lineSize fl_clock fl_callsDone fl_sentInAll) ++ ((wo_X4 cI cZ ru_h ru_ad ru_from ru_voted ru_undone ru_says ru_texts ru_lines) ++ ((wo_X1 cI cZ cr_h cr_ad cr_book cr_signed cr_size cr_latestPaper cr_paperBefore cr_paperLast cr_paperTold cr_papers cr_minutesHere cr_heres) ++ (wo_X0 cI cZ ca_h ca_ad ca_skill ca_days ca_wanted ca_named ca_minute ca_day ca_refusers ca_order ca_size)))) H → va_D A ((wo_X2 cI cZ fl_h fl_ad ru_h cr_h ca_h fl_lists fl_listSize fl_job fl_jobLast fl_refusals fl_notes fl_laws fl_line fl_lineSize fl_clock fl_callsDone fl_sentInAll) ++ ((wo_X4 cI cZ ru_h ru_ad ru_from ru_voted ru_undone ru_says ru_texts ru_lines) ++ ((wo_X1 cI cZ cr_h cr_ad cr_book cr_signed cr_size cr_latestPaper cr_paperBefore cr_paperLast cr_paperTold cr_papers cr_minutesHere cr_heres) ++ (wo_X0 cI cZ ca_h ca_ad ca_skill ca_days ca_wanted ca_named ca_minute ca_day ca_refusers ca_order ca_size)))) → va_S A s.heap H locs → lv_has ls 6 [(0, .ref fl_h), (1, .int x1), (3, .int x3), (4, .int x4), (5, .int x5)] → W p l e (headSpec wsX2_moveToEnd rm_X2_moveToEnd).room s m ([.ref fl_h, .int x1] : List Value).toArray below meth c H locs 0 0 Q (F0 m 31 ls []) := by
    intro n
    induction n with
    | zero => intro fl_lists x3 x4 x5 h; exact False.elim h
    | succ n ih =>
      intro fl_lists x3 x4 x5 h H locs ls hP hD hS hl
      refine lv_iload hx hb dX2_moveToEnd_31 (lv_at hl 4 rfl) ?_
      refine lv_iload_n hx hb dX2_moveToEnd_33 rfl (lv_at hl 2 rfl) ?_
      refine lv_icmp_ge (tgt := 87) hx hb dX2_moveToEnd_34 (by decide) (fun c_7 => ?_) (fun c_7 => ?_)
      · have h := h.1 c_7
        refine lv_iload hx hb dX2_moveToEnd_87 (lv_at hl 3 rfl) ?_
        refine lv_if_eq (tgt := 101) hx hb dX2_moveToEnd_89 (by decide) (fun c_8 => ?_) (fun c_8 => ?_)
        · have h := h.1 c_8
          rw [hQ]
          exact W.vret hx hb hr (fun t ht hW => ⟨⟨(fl_lists), rfl, h, by rw [ht]; exact hP, va_K.moved hW.alike hK, hD⟩, hS.F ht⟩) hS.2.2 dX2_moveToEnd_101
        · have h := h.2 c_8
          refine lv_aload_n hx hb dX2_moveToEnd_92 rfl (lv_at hl 0 rfl) ?_
          refine va_get (D := D) (ci := 2) (v := .ref (fl_ad 3)) (C := RX2) (T := TX2) (N := 15) hx hb hts mi_X2_moveToEnd_X2 hown hK hP 0 rfl rfl 3 (by decide) (hts (.fieldLink RX2 9 "HiringHall$Floor" "lists" "[I") (List.mem_of_getElem? (i := 3) rfl)) (fun _ h9 => h9) rfl dX2_moveToEnd_93 ?_
          refine lv_iload_n hx hb dX2_moveToEnd_96 rfl (lv_at hl 2 rfl) ?_
          refine lv_iconst (v := 1) hx hb dX2_moveToEnd_97 (by decide) ?_
          refine lv_isub hx hb dX2_moveToEnd_98 ?_
          refine lv_iload_n hx hb dX2_moveToEnd_99 rfl (lv_at hl 1 rfl) ?_
          obtain ⟨hi_9, h⟩ := h
          refine va_iast hx hb hK hP hD hS 1 0 rfl rfl hi_9 dX2_moveToEnd_100 (fun H locs hP hD hS => ?_)
          have hP : va_P D vwCl ((wo_X2 cI cZ fl_h fl_ad ru_h cr_h ca_h (upd fl_lists ((x3 - 1).toNatClampNeg) x1) fl_listSize fl_job fl_jobLast fl_refusals fl_notes fl_laws fl_line fl_lineSize fl_clock fl_callsDone fl_sentInAll) ++ ((wo_X4 cI cZ ru_h ru_ad ru_from ru_voted ru_undone ru_says ru_texts ru_lines) ++ ((wo_X1 cI cZ cr_h cr_ad cr_book cr_signed cr_size cr_latestPaper cr_paperBefore cr_paperLast cr_paperTold cr_papers cr_minutesHere cr_heres) ++ (wo_X0 cI cZ ca_h ca_ad ca_skill ca_days ca_wanted ca_named ca_minute ca_day ca_refusers ca_order ca_size)))) H := hP
          have hD : va_D A ((wo_X2 cI cZ fl_h fl_ad ru_h cr_h ca_h (upd fl_lists ((x3 - 1).toNatClampNeg) x1) fl_listSize fl_job fl_jobLast fl_refusals fl_notes fl_laws fl_line fl_lineSize fl_clock fl_callsDone fl_sentInAll) ++ ((wo_X4 cI cZ ru_h ru_ad ru_from ru_voted ru_undone ru_says ru_texts ru_lines) ++ ((wo_X1 cI cZ cr_h cr_ad cr_book cr_signed cr_size cr_latestPaper cr_paperBefore cr_paperLast cr_paperTold cr_papers cr_minutesHere cr_heres) ++ (wo_X0 cI cZ ca_h ca_ad ca_skill ca_days ca_wanted ca_named ca_minute ca_day ca_refusers ca_order ca_size)))) := hD
          rw [hQ]
          exact W.vret hx hb hr (fun t ht hW => ⟨⟨((upd fl_lists ((x3 - 1).toNatClampNeg) x1)), rfl, h, by rw [ht]; exact hP, va_K.moved hW.alike hK, hD⟩, hS.F ht⟩) hS.2.2 dX2_moveToEnd_101
      · have h := h.2 c_7
        refine lv_iload hx hb dX2_moveToEnd_37 (lv_at hl 3 rfl) ?_
        refine lv_if_eq (tgt := 58) hx hb dX2_moveToEnd_39 (by decide) (fun c_10 => ?_) (fun c_10 => ?_)
        · have h := h.1 c_10
          exact b58 _ ih fl_lists x3 x4 x5 h _ _ _ hP hD hS (lv_sub hl [0, 1, 2, 3, 4] rfl)
        · have h := h.2 c_10
          refine lv_aload_n hx hb dX2_moveToEnd_42 rfl (lv_at hl 0 rfl) ?_
          refine va_get (D := D) (ci := 2) (v := .ref (fl_ad 3)) (C := RX2) (T := TX2) (N := 15) hx hb hts mi_X2_moveToEnd_X2 hown hK hP 0 rfl rfl 3 (by decide) (hts (.fieldLink RX2 9 "HiringHall$Floor" "lists" "[I") (List.mem_of_getElem? (i := 3) rfl)) (fun _ h9 => h9) rfl dX2_moveToEnd_43 ?_
          refine lv_iload hx hb dX2_moveToEnd_46 (lv_at hl 4 rfl) ?_
          refine lv_iconst (v := 1) hx hb dX2_moveToEnd_48 (by decide) ?_
          refine lv_isub hx hb dX2_moveToEnd_49 ?_
          refine lv_aload_n hx hb dX2_moveToEnd_50 rfl (lv_at hl 0 rfl) ?_
          refine va_get (D := D) (ci := 2) (v := .ref (fl_ad 3)) (C := RX2) (T := TX2) (N := 15) hx hb hts mi_X2_moveToEnd_X2 hown hK hP 0 rfl rfl 3 (by decide) (hts (.fieldLink RX2 9 "HiringHall$Floor" "lists" "[I") (List.mem_of_getElem? (i := 3) rfl)) (fun _ h9 => h9) rfl dX2_moveToEnd_51 ?_
          refine lv_iload hx hb dX2_moveToEnd_54 (lv_at hl 4 rfl) ?_
          obtain ⟨hi_11, h⟩ := h
          refine va_iald hx hb hK hP 1 0 rfl rfl hi_11 dX2_moveToEnd_56 ?_
          refine lv_topi (fun y12 e_y12 => ?_)
          have h := h y12 e_y12
          obtain ⟨hi_13, h⟩ := h
          refine va_iast hx hb hK hP hD hS 1 0 rfl rfl hi_13 dX2_moveToEnd_57 (fun H locs hP hD hS => ?_)
          have hP : va_P D vwCl ((wo_X2 cI cZ fl_h fl_ad ru_h cr_h ca_h (upd fl_lists ((x5 - 1).toNatClampNeg) y12) fl_listSize fl_job fl_jobLast fl_refusals fl_notes fl_laws fl_line fl_lineSize fl_clock fl_callsDone fl_sentInAll) ++ ((wo_X4 cI cZ ru_h ru_ad ru_from ru_voted ru_undone ru_says ru_texts ru_lines) ++ ((wo_X1 cI cZ cr_h cr_ad cr_book cr_signed cr_size cr_latestPaper cr_paperBefore cr_paperLast cr_paperTold cr_papers cr_minutesHere cr_heres) ++ (wo_X0 cI cZ ca_h ca_ad ca_skill ca_days ca_wanted ca_named ca_minute ca_day ca_refusers ca_order ca_size)))) H := hP
          have hD : va_D A ((wo_X2 cI cZ fl_h fl_ad ru_h cr_h ca_h (upd fl_lists ((x5 - 1).toNatClampNeg) y12) fl_listSize fl_job fl_jobLast fl_refusals fl_notes fl_laws fl_line fl_lineSize fl_clock fl_callsDone fl_sentInAll) ++ ((wo_X4 cI cZ ru_h ru_ad ru_from ru_voted ru_undone ru_says ru_texts ru_lines) ++ ((wo_X1 cI cZ cr_h cr_ad cr_book cr_signed cr_size cr_latestPaper cr_paperBefore cr_paperLast cr_paperTold cr_papers cr_minutesHere cr_heres) ++ (wo_X0 cI cZ ca_h ca_ad ca_skill ca_days ca_wanted ca_named ca_minute ca_day ca_refusers ca_order ca_size)))) := hD
          exact b58 _ ih (upd fl_lists ((x5 - 1).toNatClampNeg) y12) x3 x4 x5 h _ _ _ hP hD hS (lv_sub hl [0, 1, 2, 3, 4] rfl)
  refine lv_aload_n hx hb dX2_moveToEnd_0 rfl (lv_at hl 0 rfl) ?_
  refine va_get (D := D) (ci := 2) (v := .ref cr_h) (C := RX2) (T := TX2) (N := 15) hx hb hts mi_X2_moveToEnd_X2 hown hK hP 0 rfl rfl 1 (by decide) (hts (.fieldLink RX2 40 "HiringHall$Floor" "crew" "LHiringHall$Crew;") (List.mem_of_getElem? (i := 1) rfl)) (fun _ h9 => h9) rfl dX2_moveToEnd_1 ?_
  refine va_getN (D := D) (ci := 1) (v := .ref (cr_ad 0)) (C := RX1) (T := TX1) (N := 10) hx hb hts mi_X2_moveToEnd_X1 hown hK hP 14 rfl rfl 0 (by decide) (va_Nw.use rfl (hN.1 (RX2, 101, RX1, "book", "[I", RX7) (List.mem_of_getElem? (i := 7) rfl))) (fun _ h9 => h9) rfl dX2_moveToEnd_4 ?_
  refine lv_iload_n hx hb dX2_moveToEnd_7 rfl (lv_at hl 1 rfl) ?_
  obtain ⟨hi_14, h⟩ := h
  refine va_iald hx hb hK hP 15 0 rfl rfl hi_14 dX2_moveToEnd_8 ?_
  refine lv_topi (fun y15 e_y15 => ?_)
  have h := h y15 e_y15
  refine lv_istore_n (lv' := [(2, .int y15), (0, .ref fl_h), (1, .int x1)]) hx hb dX2_moveToEnd_9 rfl hl (by decide) rfl (fun ls hl => ?_)
  refine lv_iload_n hx hb dX2_moveToEnd_10 rfl (lv_at hl 0 rfl) ?_
  refine lv_bipush (v := 16) hx hb dX2_moveToEnd_11 (by decide) ?_
  refine lv_imul hx hb dX2_moveToEnd_13 ?_
  refine lv_aload_n hx hb dX2_moveToEnd_14 rfl (lv_at hl 1 rfl) ?_
  refine va_get (D := D) (ci := 2) (v := .ref (fl_ad 4)) (C := RX2) (T := TX2) (N := 15) hx hb hts mi_X2_moveToEnd_X2 hown hK hP 0 rfl rfl 4 (by decide) (hts (.fieldLink RX2 15 "HiringHall$Floor" "listSize" "[I") (List.mem_of_getElem? (i := 2) rfl)) (fun _ h9 => h9) rfl dX2_moveToEnd_15 ?_
  refine lv_iload_n hx hb dX2_moveToEnd_18 rfl (lv_at hl 0 rfl) ?_
  obtain ⟨hi_16, h⟩ := h
  refine va_iald hx hb hK hP 2 0 rfl rfl hi_16 dX2_moveToEnd_19 ?_
  refine lv_iadd hx hb dX2_moveToEnd_20 ?_
  refine lv_topi (fun y17 e_y17 => ?_)
  have h := h y17 e_y17
  refine lv_istore_n (lv' := [(3, .int y17), (2, .int y15), (0, .ref fl_h), (1, .int x1)]) hx hb dX2_moveToEnd_21 rfl hl (by decide) rfl (fun ls hl => ?_)
  refine lv_iconst (v := 0) hx hb dX2_moveToEnd_22 (by decide) ?_
  refine lv_istore (lv' := [(4, .int 0), (3, .int y17), (2, .int y15), (0, .ref fl_h), (1, .int x1)]) hx hb dX2_moveToEnd_23 hl (by decide) rfl (fun ls hl => ?_)
  refine lv_iload_n hx hb dX2_moveToEnd_25 rfl (lv_at hl 2 rfl) ?_
  refine lv_bipush (v := 16) hx hb dX2_moveToEnd_26 (by decide) ?_
  refine lv_imul hx hb dX2_moveToEnd_28 ?_
  refine lv_topi (fun y18 e_y18 => ?_)
  have h := h y18 e_y18
  refine lv_istore (lv' := [(5, .int y18), (4, .int 0), (3, .int y17), (2, .int y15), (0, .ref fl_h), (1, .int x1)]) hx hb dX2_moveToEnd_29 hl (by decide) rfl (fun ls hl => ?_)
  obtain ⟨n, h⟩ := h
  exact b31  n fl_lists y17 0 y18 h _ _ _ hP hD hS (lv_sub hl [4, 5, 2, 1, 0] rfl)
def rm_X2_bringBack : Room := { frames := 1, cells := 0, slots := 0, locals := 25 }
theorem mi_X2_bringBack_X0 : ∀ w ∈ wsX00, w ∈ wsX2_bringBack := fun _ h => List.mem_cons_of_mem _ (List.mem_append_right _ h)
theorem mi_X2_bringBack_X1 : ∀ w ∈ wsX10, w ∈ wsX2_bringBack := fun _ h => List.mem_cons_of_mem _ (List.mem_append_left _ (List.mem_append_right _ h))
theorem mi_X2_bringBack_X2 : ∀ w ∈ wsX20, w ∈ wsX2_bringBack := fun _ h => List.mem_cons_of_mem _ (List.mem_append_left _ (List.mem_append_left _ (List.mem_append_right _ h)))
set_option maxHeartbeats 4000000 in
set_option maxRecDepth 100000 in
theorem c_X2_bringBack (l : Launch) (D : va_G) (cI cZ : ClassId) (E : (Nat → Nat) × (Nat → Nat)) (fl_h : Nat) (fl_ad : Nat → Nat) (ru_h : Nat) (ru_ad : Nat → Nat) (cr_h : Nat) (cr_ad : Nat → Nat) (ca_h : Nat) (ca_ad : Nat → Nat) (fl_lists : (Nat → Int32)) (fl_listSize : (Nat → Int32)) (fl_job : (Nat → Int32)) (fl_jobLast : (Nat → Int32)) (fl_refusals : (Nat → Int32)) (fl_notes : (Nat → Int32)) (fl_laws : (Nat → Int32)) (fl_line : (Nat → Int32)) (fl_lineSize : Int32) (fl_clock : Int32) (fl_callsDone : Int32) (fl_sentInAll : Int32) (ru_from : (Nat → Int32)) (ru_voted : (Nat → Int32)) (ru_undone : (Nat → Int32)) (ru_says : (Nat → Int32)) (ru_texts : Int32) (ru_lines : Int32) (cr_book : (Nat → Int32)) (cr_signed : (Nat → Int32)) (cr_size : Int32) (cr_latestPaper : (Nat → Int32)) (cr_paperBefore : (Nat → Int32)) (cr_paperLast : (Nat → Int32)) (cr_paperTold : (Nat → Int32)) (cr_papers : Int32) (cr_minutesHere : (Nat → Int32)) (cr_heres : Int32) (ca_skill : (Nat → Int32)) (ca_days : (Nat → Int32)) (ca_wanted : (Nat → Int32)) (ca_named : (Nat → Int32)) (ca_minute : (Nat → Int32)) (ca_day : (Nat → Int32)) (ca_refusers : (Nat → Int32)) (ca_order : (Nat → Int32)) (ca_size : Int32) (x1 : Int32) (K : ((Nat → Int32) → (Nat → Int32) → Prop)) (h : wp_X2_bringBack fl_lists fl_listSize fl_job fl_jobLast fl_laws cr_book cr_size ca_days x1 K) : mk_Cv l D cI cZ E yX2_bringBack wsX2_bringBack rm_X2_bringBack ([.ref fl_h, .int x1] : List Value) ((wo_X2 cI cZ fl_h fl_ad ru_h cr_h ca_h fl_lists fl_listSize fl_job fl_jobLast fl_refusals fl_notes fl_laws fl_line fl_lineSize fl_clock fl_callsDone fl_sentInAll) ++ ((wo_X4 cI cZ ru_h ru_ad ru_from ru_voted ru_undone ru_says ru_texts ru_lines) ++ ((wo_X1 cI cZ cr_h cr_ad cr_book cr_signed cr_size cr_latestPaper cr_paperBefore cr_paperLast cr_paperTold cr_papers cr_minutesHere cr_heres) ++ (wo_X0 cI cZ ca_h ca_ad ca_skill ca_days ca_wanted ca_named ca_minute ca_day ca_refusers ca_order ca_size)))) (fun (u : (Nat → Int32) × (Nat → Int32)) => ((wo_X2 cI cZ fl_h fl_ad ru_h cr_h ca_h u.1 fl_listSize u.2 fl_jobLast fl_refusals fl_notes fl_laws fl_line fl_lineSize fl_clock fl_callsDone fl_sentInAll) ++ ((wo_X4 cI cZ ru_h ru_ad ru_from ru_voted ru_undone ru_says ru_texts ru_lines) ++ ((wo_X1 cI cZ cr_h cr_ad cr_book cr_signed cr_size cr_latestPaper cr_paperBefore cr_paperLast cr_paperTold cr_papers cr_minutesHere cr_heres) ++ (wo_X0 cI cZ ca_h ca_ad ca_skill ca_days ca_wanted ca_named ca_minute ca_day ca_refusers ca_order ca_size))))) (fun (u : (Nat → Int32) × (Nat → Int32)) => K u.1 u.2) := by
  intro sz
  refine Met.ofW (cc := cX2_bringBack) (maxL := 4) (ret := none) (by decide) rfl ?_
  intro p e s m args below meth c s₁ B hml hv
  obtain ⟨rfl, hsz, hP, hK, hD0, hN, hE⟩ := hv
  have hx := B.exec
  have hb := B.bytes
  have hr := B.returns
  have hts := atoms_spec (ws := wsX2_bringBack) B.pre
  have hown : s.vm.findClass RX2 = some m.cls := findClass_of_methodNamed B.named
  have hlocks := B.notSynchronized
  subst hsz
  have hD := hD0.self (sz := s.heap.size)
  generalize hAe : va_A ((wo_X2 cI cZ fl_h fl_ad ru_h cr_h ca_h fl_lists fl_listSize fl_job fl_jobLast fl_refusals fl_notes fl_laws fl_line fl_lineSize fl_clock fl_callsDone fl_sentInAll) ++ ((wo_X4 cI cZ ru_h ru_ad ru_from ru_voted ru_undone ru_says ru_texts ru_lines) ++ ((wo_X1 cI cZ cr_h cr_ad cr_book cr_signed cr_size cr_latestPaper cr_paperBefore cr_paperLast cr_paperTold cr_papers cr_minutesHere cr_heres) ++ (wo_X0 cI cZ ca_h ca_ad ca_skill ca_days ca_wanted ca_named ca_minute ca_day ca_refusers ca_order ca_size)))) s.heap.size = A at hD hE ⊢
  have hA : ∀ q : Nat, s.heap.size ≤ q → A q := fun q h => by rw [← hAe]; exact Or.inr h
  have hl := lv_entry ([.ref fl_h, .int x1] : List Value) (n := 4) (Nat.le_of_ble_eq_true rfl)
  rw [lg_entry_eq]
  generalize (lg_sl ([.ref fl_h, .int x1] : List Value) ++ List.replicate (4 - (lg_sl ([.ref fl_h, .int x1] : List Value)).length) Slot.unset).toArray = ls at hl ⊢
  have hl : lv_has ls 4 [(0, .ref fl_h), (1, .int x1)] := hl
  refine mk_absQ (P := fun Q => W p l e _ s m _ below meth c s.heap [] 0 0 Q _) (fun Q hQ => ?_)
  refine mk_absH (P := fun H => W p l e _ s m _ below meth c H [] 0 0 Q _) (fun H hH => ?_)
  have hP : va_P D vwCl ((wo_X2 cI cZ fl_h fl_ad ru_h cr_h ca_h fl_lists fl_listSize fl_job fl_jobLast fl_refusals fl_notes fl_laws fl_line fl_lineSize fl_clock fl_callsDone fl_sentInAll) ++ ((wo_X4 cI cZ ru_h ru_ad ru_from ru_voted ru_undone ru_says ru_texts ru_lines) ++ ((wo_X1 cI cZ cr_h cr_ad cr_book cr_signed cr_size cr_latestPaper cr_paperBefore cr_paperLast cr_paperTold cr_papers cr_minutesHere cr_heres) ++ (wo_X0 cI cZ ca_h ca_ad ca_skill ca_days ca_wanted ca_named ca_minute ca_day ca_refusers ca_order ca_size)))) H := by rw [hH]; exact hP
  have hS : va_S A s.heap H [] := by rw [hH]; exact va_S.rf
  have b61 : ∀ (k2 : ((Nat → Int32) → (Nat → Int32) → Int32 → Prop)), (∀ (fl_lists : (Nat → Int32)) (fl_job : (Nat → Int32)) (x2 : Int32), k2 fl_lists fl_job x2 → ∀ (H : Heap) (locs : List Loc) (ls : Array Slot), va_P D vwCl ((wo_X2 cI cZ fl_h fl_ad ru_h cr_h ca_h fl_lists fl_listSize fl_job fl_jobLast fl_refusals fl_notes fl_laws fl_line fl_lineSize fl_clock fl_callsDone fl_sentInAll) ++ ((wo_X4 cI cZ ru_h ru_ad ru_from ru_voted ru_undone ru_says ru_texts ru_lines) ++ ((wo_X1 cI cZ cr_h cr_ad cr_book cr_signed cr_size cr_latestPaper cr_paperBefore cr_paperLast cr_paperTold cr_papers cr_minutesHere cr_heres) ++ (wo_X0 cI cZ ca_h ca_ad ca_skill ca_days ca_wanted ca_named ca_minute ca_day ca_refusers ca_order ca_size)))) H → va_D A ((wo_X2 cI cZ fl_h fl_ad ru_h cr_h ca_h fl_lists fl_listSize fl_job fl_jobLast fl_refusals fl_notes fl_laws fl_line fl_lineSize fl_clock fl_callsDone fl_sentInAll) ++ ((wo_X4 cI cZ ru_h ru_ad ru_from ru_voted ru_undone ru_says ru_texts ru_lines) ++ ((wo_X1 cI cZ cr_h cr_ad cr_book cr_signed cr_size cr_latestPaper cr_paperBefore cr_paperLast cr_paperTold cr_papers cr_minutesHere cr_heres) ++ (wo_X0 cI cZ ca_h ca_ad ca_skill ca_days ca_wanted ca_named ca_minute ca_day ca_refusers ca_order ca_size)))) → va_S A s.heap H locs → lv_has ls 4 [(0, .ref fl_h), (1, .int x1), (2, .int x2)] → W p l e (headSpec wsX2_bringBack rm_X2_bringBack).room s m ([.ref fl_h, .int x1] : List Value).toArray below meth c H locs 0 0 Q (F0 m 2 ls [])) → ∀ (fl_lists : (Nat → Int32)) (fl_job : (Nat → Int32)) (x2 : Int32) (t0 : Int32), wp_X2_bringBack_b61 K k2 fl_listSize cr_book fl_lists fl_job x2 t0 → ∀ (H : Heap) (locs : List Loc) (ls : Array Slot), va_P D vwCl ((wo_X2 cI cZ fl_h fl_ad ru_h cr_h ca_h fl_lists fl_listSize fl_job fl_jobLast fl_refusals fl_notes fl_laws fl_line fl_lineSize fl_clock fl_callsDone fl_sentInAll) ++ ((wo_X4 cI cZ ru_h ru_ad ru_from ru_voted ru_undone ru_says ru_texts ru_lines) ++ ((wo_X1 cI cZ cr_h cr_ad cr_book cr_signed cr_size cr_latestPaper cr_paperBefore cr_paperLast cr_paperTold cr_papers cr_minutesHere cr_heres) ++ (wo_X0 cI cZ ca_h ca_ad ca_skill ca_days ca_wanted ca_named ca_minute ca_day ca_refusers ca_order ca_size)))) H → va_D A ((wo_X2 cI cZ fl_h fl_ad ru_h cr_h ca_h fl_lists fl_listSize fl_job fl_jobLast fl_refusals fl_notes fl_laws fl_line fl_lineSize fl_clock fl_callsDone fl_sentInAll) ++ ((wo_X4 cI cZ ru_h ru_ad ru_from ru_voted ru_undone ru_says ru_texts ru_lines) ++ ((wo_X1 cI cZ cr_h cr_ad cr_book cr_signed cr_size cr_latestPaper cr_paperBefore cr_paperLast cr_paperTold cr_papers cr_minutesHere cr_heres) ++ (wo_X0 cI cZ ca_h ca_ad ca_skill ca_days ca_wanted ca_named ca_minute ca_day ca_refusers ca_order ca_size)))) → va_S A s.heap H locs → lv_has ls 4 [(0, .ref fl_h), (1, .int x1), (2, .int x2)] → W p l e (headSpec wsX2_bringBack rm_X2_bringBack).room s m ([.ref fl_h, .int x1] : List Value).toArray below meth c H locs 0 0 Q (F0 m 61 ls [.int t0]) := by
    intro k2 hk2 fl_lists fl_job x2 t0 h H locs ls hP hD hS hl
    refine lv_istore_n (lv' := [(3, .int t0), (0, .ref fl_h), (1, .int x1), (2, .int x2)]) hx hb dX2_bringBack_61 rfl hl (by decide) rfl (fun ls hl => ?_)
    refine lv_aload_n hx hb dX2_bringBack_62 rfl (lv_at hl 1 rfl) ?_
    refine va_get (D := D) (ci := 2) (v := .ref (fl_ad 5)) (C := RX2) (T := TX2) (N := 15) hx hb hts mi_X2_bringBack_X2 hown hK hP 0 rfl rfl 5 (by decide) (hts (.fieldLink RX2 18 "HiringHall$Floor" "job" "[I") (List.mem_of_getElem? (i := 2) rfl)) (fun _ h9 => h9) rfl dX2_bringBack_63 ?_
    refine lv_iload_n hx hb dX2_bringBack_66 rfl (lv_at hl 3 rfl) ?_
    refine lv_iconst (v := (-1)) hx hb dX2_bringBack_67 (by decide) ?_
    obtain ⟨hi_1, h⟩ := h
    refine va_iast hx hb hK hP hD hS 3 0 rfl rfl hi_1 dX2_bringBack_68 (fun H locs hP hD hS => ?_)
    have hP : va_P D vwCl ((wo_X2 cI cZ fl_h fl_ad ru_h cr_h ca_h fl_lists fl_listSize (upd fl_job (x2.toNatClampNeg) (-1)) fl_jobLast fl_refusals fl_notes fl_laws fl_line fl_lineSize fl_clock fl_callsDone fl_sentInAll) ++ ((wo_X4 cI cZ ru_h ru_ad ru_from ru_voted ru_undone ru_says ru_texts ru_lines) ++ ((wo_X1 cI cZ cr_h cr_ad cr_book cr_signed cr_size cr_latestPaper cr_paperBefore cr_paperLast cr_paperTold cr_papers cr_minutesHere cr_heres) ++ (wo_X0 cI cZ ca_h ca_ad ca_skill ca_days ca_wanted ca_named ca_minute ca_day ca_refusers ca_order ca_size)))) H := hP
    have hD : va_D A ((wo_X2 cI cZ fl_h fl_ad ru_h cr_h ca_h fl_lists fl_listSize (upd fl_job (x2.toNatClampNeg) (-1)) fl_jobLast fl_refusals fl_notes fl_laws fl_line fl_lineSize fl_clock fl_callsDone fl_sentInAll) ++ ((wo_X4 cI cZ ru_h ru_ad ru_from ru_voted ru_undone ru_says ru_texts ru_lines) ++ ((wo_X1 cI cZ cr_h cr_ad cr_book cr_signed cr_size cr_latestPaper cr_paperBefore cr_paperLast cr_paperTold cr_papers cr_minutesHere cr_heres) ++ (wo_X0 cI cZ ca_h ca_ad ca_skill ca_days ca_wanted ca_named ca_minute ca_day ca_refusers ca_order ca_size)))) := hD
    refine lv_iload_n hx hb dX2_bringBack_69 rfl (lv_at hl 0 rfl) ?_
    refine lv_if_eq (tgt := 78) hx hb dX2_bringBack_70 (by decide) (fun c_2 => ?_) (fun c_2 => ?_)
    · have h := h.1 c_2
      obtain ⟨y3, e_y3⟩ : ∃ y : Int32, y = x2 + 1 := ⟨_, rfl⟩
      have h := h y3 e_y3
      refine lv_iinc (v := y3) (lv' := [(2, .int y3), (3, .int t0), (0, .ref fl_h), (1, .int x1)]) hx hb dX2_bringBack_78 hl (k := 3) rfl (by rw [e_y3]; rfl) (by decide) rfl (fun ls hl => ?_)
      refine lv_goto (tgt := 2) hx hb dX2_bringBack_81 (by decide) ?_
      exact hk2 fl_lists (upd fl_job (x2.toNatClampNeg) (-1)) y3 h _ _ _ hP hD hS (lv_sub hl [2, 3, 0] rfl)
    · have h := h.2 c_2
      refine lv_aload_n hx hb dX2_bringBack_73 rfl (lv_at hl 1 rfl) ?_
      refine lv_iload_n hx hb dX2_bringBack_74 rfl (lv_at hl 3 rfl) ?_
      have hP : va_P D vwCl ((fun v => v) ((wo_X2 cI cZ fl_h fl_ad ru_h cr_h ca_h fl_lists fl_listSize (upd fl_job (x2.toNatClampNeg) (-1)) fl_jobLast fl_refusals fl_notes fl_laws fl_line fl_lineSize fl_clock fl_callsDone fl_sentInAll) ++ ((wo_X4 cI cZ ru_h ru_ad ru_from ru_voted ru_undone ru_says ru_texts ru_lines) ++ ((wo_X1 cI cZ cr_h cr_ad cr_book cr_signed cr_size cr_latestPaper cr_paperBefore cr_paperLast cr_paperTold cr_papers cr_minutesHere cr_heres) ++ (wo_X0 cI cZ ca_h ca_ad ca_skill ca_days ca_wanted ca_named ca_minute ca_day ca_refusers ca_order ca_size))))) H := hP
      have hD : va_D A ((fun v => v) ((wo_X2 cI cZ fl_h fl_ad ru_h cr_h ca_h fl_lists fl_listSize (upd fl_job (x2.toNatClampNeg) (-1)) fl_jobLast fl_refusals fl_notes fl_laws fl_line fl_lineSize fl_clock fl_callsDone fl_sentInAll) ++ ((wo_X4 cI cZ ru_h ru_ad ru_from ru_voted ru_undone ru_says ru_texts ru_lines) ++ ((wo_X1 cI cZ cr_h cr_ad cr_book cr_signed cr_size cr_latestPaper cr_paperBefore cr_paperLast cr_paperTold cr_papers cr_minutesHere cr_heres) ++ (wo_X0 cI cZ ca_h ca_ad ca_skill ca_days ca_wanted ca_named ca_minute ca_day ca_refusers ca_order ca_size))))) := hD
      refine mk_cv (f := fun v => v) mk_fr_id (va_runV (As := [.int x2]) (rest := []) ⟨hx, hb, hml, hown, hts⟩ (c_X2_moveToEnd l D cI cZ E fl_h fl_ad ru_h ru_ad cr_h cr_ad ca_h ca_ad fl_lists fl_listSize (upd fl_job (x2.toNatClampNeg) (-1)) fl_jobLast fl_refusals fl_notes fl_laws fl_line fl_lineSize fl_clock fl_callsDone fl_sentInAll ru_from ru_voted ru_undone ru_says ru_texts ru_lines cr_book cr_signed cr_size cr_latestPaper cr_paperBefore cr_paperLast cr_paperTold cr_papers cr_minutesHere cr_heres ca_skill ca_days ca_wanted ca_named ca_minute ca_day ca_refusers ca_order ca_size x2 _ h H.size) (cwV 1 hts gX2_bringBack_X2_moveToEnd rfl rfl rfl (by decide +kernel) ⟨Nat.le_of_ble_eq_true rfl, Nat.le_of_ble_eq_true rfl⟩) (mk_preV (ci := 2) mk_fr_id hK hN hE hS hA hP hD rfl rfl) rfl rfl hl.1 rfl (lv_room (Nat.le_of_ble_eq_true rfl)) dX2_bringBack_75 ⟨Nat.le_of_ble_eq_true rfl, Nat.le_of_ble_eq_true rfl⟩) hP hD hS hA (fun u H locs h hP hD hS => ?_)
      obtain ⟨a4, rfl⟩ : ∃ z, z = u := ⟨_, rfl⟩
      try dsimp only at h
      have hP : va_P D vwCl ((wo_X2 cI cZ fl_h fl_ad ru_h cr_h ca_h a4 fl_listSize (upd fl_job (x2.toNatClampNeg) (-1)) fl_jobLast fl_refusals fl_notes fl_laws fl_line fl_lineSize fl_clock fl_callsDone fl_sentInAll) ++ ((wo_X4 cI cZ ru_h ru_ad ru_from ru_voted ru_undone ru_says ru_texts ru_lines) ++ ((wo_X1 cI cZ cr_h cr_ad cr_book cr_signed cr_size cr_latestPaper cr_paperBefore cr_paperLast cr_paperTold cr_papers cr_minutesHere cr_heres) ++ (wo_X0 cI cZ ca_h ca_ad ca_skill ca_days ca_wanted ca_named ca_minute ca_day ca_refusers ca_order ca_size)))) H := hP
      have hD : va_D A ((wo_X2 cI cZ fl_h fl_ad ru_h cr_h ca_h a4 fl_listSize (upd fl_job (x2.toNatClampNeg) (-1)) fl_jobLast fl_refusals fl_notes fl_laws fl_line fl_lineSize fl_clock fl_callsDone fl_sentInAll) ++ ((wo_X4 cI cZ ru_h ru_ad ru_from ru_voted ru_undone ru_says ru_texts ru_lines) ++ ((wo_X1 cI cZ cr_h cr_ad cr_book cr_signed cr_size cr_latestPaper cr_paperBefore cr_paperLast cr_paperTold cr_papers cr_minutesHere cr_heres) ++ (wo_X0 cI cZ ca_h ca_ad ca_skill ca_days ca_wanted ca_named ca_minute ca_day ca_refusers ca_order ca_size)))) := hD
      obtain ⟨y5, e_y5⟩ : ∃ y : Int32, y = x2 + 1 := ⟨_, rfl⟩
      have h := h y5 e_y5
      refine lv_iinc (v := y5) (lv' := [(2, .int y5), (3, .int t0), (0, .ref fl_h), (1, .int x1)]) hx hb dX2_bringBack_78 hl (k := 3) rfl (by rw [e_y5]; rfl) (by decide) rfl (fun ls hl => ?_)
      refine lv_goto (tgt := 2) hx hb dX2_bringBack_81 (by decide) ?_
      exact hk2 a4 (upd fl_job (x2.toNatClampNeg) (-1)) y5 h _ _ _ hP hD hS (lv_sub hl [2, 3, 0] rfl)
  have b2 : ∀ (n : Nat), ∀ (fl_lists : (Nat → Int32)) (fl_job : (Nat → Int32)) (x2 : Int32), wp_X2_bringBack_b2 K fl_listSize fl_jobLast fl_laws cr_book cr_size ca_days x1 n fl_lists fl_job x2 → ∀ (H : Heap) (locs : List Loc) (ls : Array Slot), va_P D vwCl ((wo_X2 cI cZ fl_h fl_ad ru_h cr_h ca_h fl_lists fl_listSize fl_job fl_jobLast fl_refusals fl_notes fl_laws fl_line fl_lineSize fl_clock fl_callsDone fl_sentInAll) ++ ((wo_X4 cI cZ ru_h ru_ad ru_from ru_voted ru_undone ru_says ru_texts ru_lines) ++ ((wo_X1 cI cZ cr_h cr_ad cr_book cr_signed cr_size cr_latestPaper cr_paperBefore cr_paperLast cr_paperTold cr_papers cr_minutesHere cr_heres) ++ (wo_X0 cI cZ ca_h ca_ad ca_skill ca_days ca_wanted ca_named ca_minute ca_day ca_refusers ca_order ca_size)))) H → va_D A ((wo_X2 cI cZ fl_h fl_ad ru_h cr_h ca_h fl_lists fl_listSize fl_job fl_jobLast fl_refusals fl_notes fl_laws fl_line fl_lineSize fl_clock fl_callsDone fl_sentInAll) ++ ((wo_X4 cI cZ ru_h ru_ad ru_from ru_voted ru_undone ru_says ru_texts ru_lines) ++ ((wo_X1 cI cZ cr_h cr_ad cr_book cr_signed cr_size cr_latestPaper cr_paperBefore cr_paperLast cr_paperTold cr_papers cr_minutesHere cr_heres) ++ (wo_X0 cI cZ ca_h ca_ad ca_skill ca_days ca_wanted ca_named ca_minute ca_day ca_refusers ca_order ca_size)))) → va_S A s.heap H locs → lv_has ls 4 [(0, .ref fl_h), (1, .int x1), (2, .int x2)] → W p l e (headSpec wsX2_bringBack rm_X2_bringBack).room s m ([.ref fl_h, .int x1] : List Value).toArray below meth c H locs 0 0 Q (F0 m 2 ls []) := by
    intro n
    induction n with
    | zero => intro fl_lists fl_job x2 h; exact False.elim h
    | succ n ih =>
      intro fl_lists fl_job x2 h H locs ls hP hD hS hl
      refine lv_iload_n hx hb dX2_bringBack_2 rfl (lv_at hl 2 rfl) ?_
      refine lv_aload_n hx hb dX2_bringBack_3 rfl (lv_at hl 0 rfl) ?_
      refine va_get (D := D) (ci := 2) (v := .ref cr_h) (C := RX2) (T := TX2) (N := 15) hx hb hts mi_X2_bringBack_X2 hown hK hP 0 rfl rfl 1 (by decide) (hts (.fieldLink RX2 40 "HiringHall$Floor" "crew" "LHiringHall$Crew;") (List.mem_of_getElem? (i := 1) rfl)) (fun _ h9 => h9) rfl dX2_bringBack_4 ?_
      refine va_getN (D := D) (ci := 1) (v := .int cr_size) (C := RX1) (T := TX1) (N := 10) hx hb hts mi_X2_bringBack_X1 hown hK hP 14 rfl rfl 2 (by decide) (va_Nw.use rfl (hN.1 (RX2, 89, RX1, "size", "I", RX7) (List.mem_of_getElem? (i := 11) rfl))) (fun _ h9 => h9) rfl dX2_bringBack_7 ?_
      refine lv_icmp_ge (tgt := 84) hx hb dX2_bringBack_10 (by decide) (fun c_6 => ?_) (fun c_6 => ?_)
      · have h := h.1 c_6
        rw [hQ]
        exact W.vret hx hb hr (fun t ht hW => ⟨⟨(fl_lists, fl_job), rfl, h, by rw [ht]; exact hP, va_K.moved hW.alike hK, hD⟩, hS.F ht⟩) hS.2.2 dX2_bringBack_84
      · have h := h.2 c_6
        refine lv_aload_n hx hb dX2_bringBack_13 rfl (lv_at hl 0 rfl) ?_
        refine va_get (D := D) (ci := 2) (v := .ref (fl_ad 5)) (C := RX2) (T := TX2) (N := 15) hx hb hts mi_X2_bringBack_X2 hown hK hP 0 rfl rfl 5 (by decide) (hts (.fieldLink RX2 18 "HiringHall$Floor" "job" "[I") (List.mem_of_getElem? (i := 2) rfl)) (fun _ h9 => h9) rfl dX2_bringBack_14 ?_
        refine lv_iload_n hx hb dX2_bringBack_17 rfl (lv_at hl 2 rfl) ?_
        obtain ⟨hi_7, h⟩ := h
        refine va_iald hx hb hK hP 3 0 rfl rfl hi_7 dX2_bringBack_18 ?_
        refine lv_iconst (v := (-1)) hx hb dX2_bringBack_19 (by decide) ?_
        refine lv_icmp_eq (tgt := 78) hx hb dX2_bringBack_20 (by decide) (fun c_8 => ?_) (fun c_8 => ?_)
        · have h := h.1 c_8
          obtain ⟨y9, e_y9⟩ : ∃ y : Int32, y = x2 + 1 := ⟨_, rfl⟩
          have h := h y9 e_y9
          refine lv_iinc (v := y9) (lv' := [(2, .int y9), (0, .ref fl_h), (1, .int x1)]) hx hb dX2_bringBack_78 hl (k := 2) rfl (by rw [e_y9]; rfl) (by decide) rfl (fun ls hl => ?_)
          refine lv_goto (tgt := 2) hx hb dX2_bringBack_81 (by decide) ?_
          exact ih fl_lists fl_job y9 h _ _ _ hP hD hS (lv_sub hl [1, 2, 0] rfl)
        · have h := h.2 c_8
          refine lv_aload_n hx hb dX2_bringBack_23 rfl (lv_at hl 0 rfl) ?_
          refine va_get (D := D) (ci := 2) (v := .ref (fl_ad 6)) (C := RX2) (T := TX2) (N := 15) hx hb hts mi_X2_bringBack_X2 hown hK hP 0 rfl rfl 6 (by decide) (hts (.fieldLink RX2 21 "HiringHall$Floor" "jobLast" "[I") (List.mem_of_getElem? (i := 3) rfl)) (fun _ h9 => h9) rfl dX2_bringBack_24 ?_
          refine lv_iload_n hx hb dX2_bringBack_27 rfl (lv_at hl 2 rfl) ?_
          obtain ⟨hi_10, h⟩ := h
          refine va_iald hx hb hK hP 4 0 rfl rfl hi_10 dX2_bringBack_28 ?_
          refine lv_iload_n hx hb dX2_bringBack_29 rfl (lv_at hl 1 rfl) ?_
          refine lv_icmp_ge (tgt := 78) hx hb dX2_bringBack_30 (by decide) (fun c_11 => ?_) (fun c_11 => ?_)
          · have h := h.1 c_11
            obtain ⟨y12, e_y12⟩ : ∃ y : Int32, y = x2 + 1 := ⟨_, rfl⟩
            have h := h y12 e_y12
            refine lv_iinc (v := y12) (lv' := [(2, .int y12), (0, .ref fl_h), (1, .int x1)]) hx hb dX2_bringBack_78 hl (k := 2) rfl (by rw [e_y12]; rfl) (by decide) rfl (fun ls hl => ?_)
            refine lv_goto (tgt := 2) hx hb dX2_bringBack_81 (by decide) ?_
            exact ih fl_lists fl_job y12 h _ _ _ hP hD hS (lv_sub hl [1, 2, 0] rfl)
          · have h := h.2 c_11
            refine lv_aload_n hx hb dX2_bringBack_33 rfl (lv_at hl 0 rfl) ?_
            refine va_get (D := D) (ci := 2) (v := .ref ca_h) (C := RX2) (T := TX2) (N := 15) hx hb hts mi_X2_bringBack_X2 hown hK hP 0 rfl rfl 2 (by decide) (hts (.fieldLink RX2 44 "HiringHall$Floor" "calls" "LHiringHall$Calls;") (List.mem_of_getElem? (i := 4) rfl)) (fun _ h9 => h9) rfl dX2_bringBack_34 ?_
            refine va_getN (D := D) (ci := 0) (v := .ref (ca_ad 1)) (C := RX0) (T := TX0) (N := 9) hx hb hts mi_X2_bringBack_X0 hown hK hP 22 rfl rfl 1 (by decide) (va_Nw.use rfl (hN.1 (RX2, 92, RX0, "days", "[I", RX7) (List.mem_of_getElem? (i := 16) rfl))) (fun _ h9 => h9) rfl dX2_bringBack_37 ?_
            refine lv_aload_n hx hb dX2_bringBack_40 rfl (lv_at hl 0 rfl) ?_
            refine va_get (D := D) (ci := 2) (v := .ref (fl_ad 5)) (C := RX2) (T := TX2) (N := 15) hx hb hts mi_X2_bringBack_X2 hown hK hP 0 rfl rfl 5 (by decide) (hts (.fieldLink RX2 18 "HiringHall$Floor" "job" "[I") (List.mem_of_getElem? (i := 2) rfl)) (fun _ h9 => h9) rfl dX2_bringBack_41 ?_
            refine lv_iload_n hx hb dX2_bringBack_44 rfl (lv_at hl 2 rfl) ?_
            obtain ⟨hi_13, h⟩ := h
            refine va_iald hx hb hK hP 3 0 rfl rfl hi_13 dX2_bringBack_45 ?_
            obtain ⟨hi_14, h⟩ := h
            refine va_iald hx hb hK hP 24 0 rfl rfl hi_14 dX2_bringBack_46 ?_
            refine lv_aload_n hx hb dX2_bringBack_47 rfl (lv_at hl 0 rfl) ?_
            refine va_get (D := D) (ci := 2) (v := .ref (fl_ad 9)) (C := RX2) (T := TX2) (N := 15) hx hb hts mi_X2_bringBack_X2 hown hK hP 0 rfl rfl 9 (by decide) (hts (.fieldLink RX2 30 "HiringHall$Floor" "laws" "[I") (List.mem_of_getElem? (i := 5) rfl)) (fun _ h9 => h9) rfl dX2_bringBack_48 ?_
            refine lv_iconst (v := 0) hx hb dX2_bringBack_51 (by decide) ?_
            obtain ⟨hi_15, h⟩ := h
            refine va_iald hx hb hK hP 7 0 rfl rfl hi_15 dX2_bringBack_52 ?_
            refine lv_icmp_le (tgt := 60) hx hb dX2_bringBack_53 (by decide) (fun c_16 => ?_) (fun c_16 => ?_)
            · have h := h.1 c_16
              refine lv_iconst (v := 0) hx hb dX2_bringBack_60 (by decide) ?_
              exact b61 _ ih fl_lists fl_job x2 0 h _ _ _ hP hD hS (lv_sub hl [0, 1, 2] rfl)
            · have h := h.2 c_16
              refine lv_iconst (v := 1) hx hb dX2_bringBack_56 (by decide) ?_
              refine lv_goto (tgt := 61) hx hb dX2_bringBack_57 (by decide) ?_
              exact b61 _ ih fl_lists fl_job x2 1 h _ _ _ hP hD hS (lv_sub hl [0, 1, 2] rfl)
  refine lv_iconst (v := 0) hx hb dX2_bringBack_0 (by decide) ?_
  refine lv_istore_n (lv' := [(2, .int 0), (0, .ref fl_h), (1, .int x1)]) hx hb dX2_bringBack_1 rfl hl (by decide) rfl (fun ls hl => ?_)
  obtain ⟨n, h⟩ := h
  exact b2  n fl_lists fl_job 0 h _ _ _ hP hD hS (lv_sub hl [1, 2, 0] rfl)
def rm_X2_signOn : Room := { frames := 0, cells := 0, slots := 0, locals := 0 }
theorem mi_X2_signOn_X1 : ∀ w ∈ wsX10, w ∈ wsX2_signOn := fun _ h => List.mem_cons_of_mem _ (List.mem_append_right _ h)
theorem mi_X2_signOn_X2 : ∀ w ∈ wsX20, w ∈ wsX2_signOn := fun _ h => List.mem_cons_of_mem _ (List.mem_append_left _ (List.mem_append_right _ h))
set_option maxHeartbeats 4000000 in
set_option maxRecDepth 100000 in
theorem c_X2_signOn (l : Launch) (D : va_G) (cI cZ : ClassId) (E : (Nat → Nat) × (Nat → Nat)) (fl_h : Nat) (fl_ad : Nat → Nat) (ru_h : Nat) (ru_ad : Nat → Nat) (cr_h : Nat) (cr_ad : Nat → Nat) (ca_h : Nat) (ca_ad : Nat → Nat) (fl_lists : (Nat → Int32)) (fl_listSize : (Nat → Int32)) (fl_job : (Nat → Int32)) (fl_jobLast : (Nat → Int32)) (fl_refusals : (Nat → Int32)) (fl_notes : (Nat → Int32)) (fl_laws : (Nat → Int32)) (fl_line : (Nat → Int32)) (fl_lineSize : Int32) (fl_clock : Int32) (fl_callsDone : Int32) (fl_sentInAll : Int32) (ru_from : (Nat → Int32)) (ru_voted : (Nat → Int32)) (ru_undone : (Nat → Int32)) (ru_says : (Nat → Int32)) (ru_texts : Int32) (ru_lines : Int32) (cr_book : (Nat → Int32)) (cr_signed : (Nat → Int32)) (cr_size : Int32) (cr_latestPaper : (Nat → Int32)) (cr_paperBefore : (Nat → Int32)) (cr_paperLast : (Nat → Int32)) (cr_paperTold : (Nat → Int32)) (cr_papers : Int32) (cr_minutesHere : (Nat → Int32)) (cr_heres : Int32) (ca_skill : (Nat → Int32)) (ca_days : (Nat → Int32)) (ca_wanted : (Nat → Int32)) (ca_named : (Nat → Int32)) (ca_minute : (Nat → Int32)) (ca_day : (Nat → Int32)) (ca_refusers : (Nat → Int32)) (ca_order : (Nat → Int32)) (ca_size : Int32) (x1 : Int32) (K : ((Nat → Int32) → (Nat → Int32) → Prop)) (h : wp_X2_signOn fl_lists fl_listSize cr_book cr_signed cr_size x1 K) : mk_Cv l D cI cZ E yX2_signOn wsX2_signOn rm_X2_signOn ([.ref fl_h, .int x1] : List Value) ((wo_X2 cI cZ fl_h fl_ad ru_h cr_h ca_h fl_lists fl_listSize fl_job fl_jobLast fl_refusals fl_notes fl_laws fl_line fl_lineSize fl_clock fl_callsDone fl_sentInAll) ++ ((wo_X4 cI cZ ru_h ru_ad ru_from ru_voted ru_undone ru_says ru_texts ru_lines) ++ ((wo_X1 cI cZ cr_h cr_ad cr_book cr_signed cr_size cr_latestPaper cr_paperBefore cr_paperLast cr_paperTold cr_papers cr_minutesHere cr_heres) ++ (wo_X0 cI cZ ca_h ca_ad ca_skill ca_days ca_wanted ca_named ca_minute ca_day ca_refusers ca_order ca_size)))) (fun (u : (Nat → Int32) × (Nat → Int32)) => ((wo_X2 cI cZ fl_h fl_ad ru_h cr_h ca_h u.1 u.2 fl_job fl_jobLast fl_refusals fl_notes fl_laws fl_line fl_lineSize fl_clock fl_callsDone fl_sentInAll) ++ ((wo_X4 cI cZ ru_h ru_ad ru_from ru_voted ru_undone ru_says ru_texts ru_lines) ++ ((wo_X1 cI cZ cr_h cr_ad cr_book cr_signed cr_size cr_latestPaper cr_paperBefore cr_paperLast cr_paperTold cr_papers cr_minutesHere cr_heres) ++ (wo_X0 cI cZ ca_h ca_ad ca_skill ca_days ca_wanted ca_named ca_minute ca_day ca_refusers ca_order ca_size))))) (fun (u : (Nat → Int32) × (Nat → Int32)) => K u.1 u.2) := by
  intro sz
  refine Met.ofW (cc := cX2_signOn) (maxL := 4) (ret := none) (by decide) rfl ?_
  intro p e s m args below meth c s₁ B hml hv
  obtain ⟨rfl, hsz, hP, hK, hD0, hN, hE⟩ := hv
  have hx := B.exec
  have hb := B.bytes
  have hr := B.returns
  have hts := atoms_spec (ws := wsX2_signOn) B.pre
  have hown : s.vm.findClass RX2 = some m.cls := findClass_of_methodNamed B.named
  have hlocks := B.notSynchronized
  subst hsz
  have hD := hD0.self (sz := s.heap.size)
  generalize hAe : va_A ((wo_X2 cI cZ fl_h fl_ad ru_h cr_h ca_h fl_lists fl_listSize fl_job fl_jobLast fl_refusals fl_notes fl_laws fl_line fl_lineSize fl_clock fl_callsDone fl_sentInAll) ++ ((wo_X4 cI cZ ru_h ru_ad ru_from ru_voted ru_undone ru_says ru_texts ru_lines) ++ ((wo_X1 cI cZ cr_h cr_ad cr_book cr_signed cr_size cr_latestPaper cr_paperBefore cr_paperLast cr_paperTold cr_papers cr_minutesHere cr_heres) ++ (wo_X0 cI cZ ca_h ca_ad ca_skill ca_days ca_wanted ca_named ca_minute ca_day ca_refusers ca_order ca_size)))) s.heap.size = A at hD hE ⊢
  have hA : ∀ q : Nat, s.heap.size ≤ q → A q := fun q h => by rw [← hAe]; exact Or.inr h
  have hl := lv_entry ([.ref fl_h, .int x1] : List Value) (n := 4) (Nat.le_of_ble_eq_true rfl)
  rw [lg_entry_eq]
  generalize (lg_sl ([.ref fl_h, .int x1] : List Value) ++ List.replicate (4 - (lg_sl ([.ref fl_h, .int x1] : List Value)).length) Slot.unset).toArray = ls at hl ⊢
  have hl : lv_has ls 4 [(0, .ref fl_h), (1, .int x1)] := hl
  refine mk_absQ (P := fun Q => W p l e _ s m _ below meth c s.heap [] 0 0 Q _) (fun Q hQ => ?_)
  refine mk_absH (P := fun H => W p l e _ s m _ below meth c H [] 0 0 Q _) (fun H hH => ?_)
  have hP : va_P D vwCl ((wo_X2 cI cZ fl_h fl_ad ru_h cr_h ca_h fl_lists fl_listSize fl_job fl_jobLast fl_refusals fl_notes fl_laws fl_line fl_lineSize fl_clock fl_callsDone fl_sentInAll) ++ ((wo_X4 cI cZ ru_h ru_ad ru_from ru_voted ru_undone ru_says ru_texts ru_lines) ++ ((wo_X1 cI cZ cr_h cr_ad cr_book cr_signed cr_size cr_latestPaper cr_paperBefore cr_paperLast cr_paperTold cr_papers cr_minutesHere cr_heres) ++ (wo_X0 cI cZ ca_h ca_ad ca_skill ca_days ca_wanted ca_named ca_minute ca_day ca_refusers ca_order ca_size)))) H := by rw [hH]; exact hP
  have hS : va_S A s.heap H [] := by rw [hH]; exact va_S.rf
  have b2 : ∀ (n : Nat), ∀ (fl_lists : (Nat → Int32)) (fl_listSize : (Nat → Int32)) (x2 : Int32), wp_X2_signOn_b2 K cr_book cr_signed cr_size x1 n fl_lists fl_listSize x2 → ∀ (H : Heap) (locs : List Loc) (ls : Array Slot), va_P D vwCl ((wo_X2 cI cZ fl_h fl_ad ru_h cr_h ca_h fl_lists fl_listSize fl_job fl_jobLast fl_refusals fl_notes fl_laws fl_line fl_lineSize fl_clock fl_callsDone fl_sentInAll) ++ ((wo_X4 cI cZ ru_h ru_ad ru_from ru_voted ru_undone ru_says ru_texts ru_lines) ++ ((wo_X1 cI cZ cr_h cr_ad cr_book cr_signed cr_size cr_latestPaper cr_paperBefore cr_paperLast cr_paperTold cr_papers cr_minutesHere cr_heres) ++ (wo_X0 cI cZ ca_h ca_ad ca_skill ca_days ca_wanted ca_named ca_minute ca_day ca_refusers ca_order ca_size)))) H → va_D A ((wo_X2 cI cZ fl_h fl_ad ru_h cr_h ca_h fl_lists fl_listSize fl_job fl_jobLast fl_refusals fl_notes fl_laws fl_line fl_lineSize fl_clock fl_callsDone fl_sentInAll) ++ ((wo_X4 cI cZ ru_h ru_ad ru_from ru_voted ru_undone ru_says ru_texts ru_lines) ++ ((wo_X1 cI cZ cr_h cr_ad cr_book cr_signed cr_size cr_latestPaper cr_paperBefore cr_paperLast cr_paperTold cr_papers cr_minutesHere cr_heres) ++ (wo_X0 cI cZ ca_h ca_ad ca_skill ca_days ca_wanted ca_named ca_minute ca_day ca_refusers ca_order ca_size)))) → va_S A s.heap H locs → lv_has ls 4 [(0, .ref fl_h), (1, .int x1), (2, .int x2)] → W p l e (headSpec wsX2_signOn rm_X2_signOn).room s m ([.ref fl_h, .int x1] : List Value).toArray below meth c H locs 0 0 Q (F0 m 2 ls []) := by
    intro n
    induction n with
    | zero => intro fl_lists fl_listSize x2 h; exact False.elim h
    | succ n ih =>
      intro fl_lists fl_listSize x2 h H locs ls hP hD hS hl
      refine lv_iload_n hx hb dX2_signOn_2 rfl (lv_at hl 2 rfl) ?_
      refine lv_aload_n hx hb dX2_signOn_3 rfl (lv_at hl 0 rfl) ?_
      refine va_get (D := D) (ci := 2) (v := .ref cr_h) (C := RX2) (T := TX2) (N := 15) hx hb hts mi_X2_signOn_X2 hown hK hP 0 rfl rfl 1 (by decide) (hts (.fieldLink RX2 40 "HiringHall$Floor" "crew" "LHiringHall$Crew;") (List.mem_of_getElem? (i := 1) rfl)) (fun _ h9 => h9) rfl dX2_signOn_4 ?_
      refine va_getN (D := D) (ci := 1) (v := .int cr_size) (C := RX1) (T := TX1) (N := 10) hx hb hts mi_X2_signOn_X1 hown hK hP 14 rfl rfl 2 (by decide) (va_Nw.use rfl (hN.1 (RX2, 89, RX1, "size", "I", RX7) (List.mem_of_getElem? (i := 11) rfl))) (fun _ h9 => h9) rfl dX2_signOn_7 ?_
      refine lv_icmp_ge (tgt := 69) hx hb dX2_signOn_10 (by decide) (fun c_1 => ?_) (fun c_1 => ?_)
      · have h := h.1 c_1
        rw [hQ]
        exact W.vret hx hb hr (fun t ht hW => ⟨⟨(fl_lists, fl_listSize), rfl, h, by rw [ht]; exact hP, va_K.moved hW.alike hK, hD⟩, hS.F ht⟩) hS.2.2 dX2_signOn_69
      · have h := h.2 c_1
        refine lv_aload_n hx hb dX2_signOn_13 rfl (lv_at hl 0 rfl) ?_
        refine va_get (D := D) (ci := 2) (v := .ref cr_h) (C := RX2) (T := TX2) (N := 15) hx hb hts mi_X2_signOn_X2 hown hK hP 0 rfl rfl 1 (by decide) (hts (.fieldLink RX2 40 "HiringHall$Floor" "crew" "LHiringHall$Crew;") (List.mem_of_getElem? (i := 1) rfl)) (fun _ h9 => h9) rfl dX2_signOn_14 ?_
        refine va_getN (D := D) (ci := 1) (v := .ref (cr_ad 1)) (C := RX1) (T := TX1) (N := 10) hx hb hts mi_X2_signOn_X1 hown hK hP 14 rfl rfl 1 (by decide) (va_Nw.use rfl (hN.1 (RX2, 98, RX1, "signed", "[I", RX7) (List.mem_of_getElem? (i := 9) rfl))) (fun _ h9 => h9) rfl dX2_signOn_17 ?_
        refine lv_iload_n hx hb dX2_signOn_20 rfl (lv_at hl 2 rfl) ?_
        obtain ⟨hi_2, h⟩ := h
        refine va_iald hx hb hK hP 16 0 rfl rfl hi_2 dX2_signOn_21 ?_
        refine lv_iload_n hx hb dX2_signOn_22 rfl (lv_at hl 1 rfl) ?_
        refine lv_icmp_ne (tgt := 63) hx hb dX2_signOn_23 (by decide) (fun c_3 => ?_) (fun c_3 => ?_)
        · have h := h.1 c_3
          obtain ⟨y4, e_y4⟩ : ∃ y : Int32, y = x2 + 1 := ⟨_, rfl⟩
          have h := h y4 e_y4
          refine lv_iinc (v := y4) (lv' := [(2, .int y4), (0, .ref fl_h), (1, .int x1)]) hx hb dX2_signOn_63 hl (k := 2) rfl (by rw [e_y4]; rfl) (by decide) rfl (fun ls hl => ?_)
          refine lv_goto (tgt := 2) hx hb dX2_signOn_66 (by decide) ?_
          exact ih fl_lists fl_listSize y4 h _ _ _ hP hD hS (lv_sub hl [1, 2, 0] rfl)
        · have h := h.2 c_3
          refine lv_aload_n hx hb dX2_signOn_26 rfl (lv_at hl 0 rfl) ?_
          refine va_get (D := D) (ci := 2) (v := .ref cr_h) (C := RX2) (T := TX2) (N := 15) hx hb hts mi_X2_signOn_X2 hown hK hP 0 rfl rfl 1 (by decide) (hts (.fieldLink RX2 40 "HiringHall$Floor" "crew" "LHiringHall$Crew;") (List.mem_of_getElem? (i := 1) rfl)) (fun _ h9 => h9) rfl dX2_signOn_27 ?_
          refine va_getN (D := D) (ci := 1) (v := .ref (cr_ad 0)) (C := RX1) (T := TX1) (N := 10) hx hb hts mi_X2_signOn_X1 hown hK hP 14 rfl rfl 0 (by decide) (va_Nw.use rfl (hN.1 (RX2, 101, RX1, "book", "[I", RX7) (List.mem_of_getElem? (i := 7) rfl))) (fun _ h9 => h9) rfl dX2_signOn_30 ?_
          refine lv_iload_n hx hb dX2_signOn_33 rfl (lv_at hl 2 rfl) ?_
          obtain ⟨hi_5, h⟩ := h
          refine va_iald hx hb hK hP 15 0 rfl rfl hi_5 dX2_signOn_34 ?_
          refine lv_topi (fun y6 e_y6 => ?_)
          have h := h y6 e_y6
          refine lv_istore_n (lv' := [(3, .int y6), (0, .ref fl_h), (1, .int x1), (2, .int x2)]) hx hb dX2_signOn_35 rfl hl (by decide) rfl (fun ls hl => ?_)
          refine lv_aload_n hx hb dX2_signOn_36 rfl (lv_at hl 1 rfl) ?_
          refine va_get (D := D) (ci := 2) (v := .ref (fl_ad 3)) (C := RX2) (T := TX2) (N := 15) hx hb hts mi_X2_signOn_X2 hown hK hP 0 rfl rfl 3 (by decide) (hts (.fieldLink RX2 9 "HiringHall$Floor" "lists" "[I") (List.mem_of_getElem? (i := 2) rfl)) (fun _ h9 => h9) rfl dX2_signOn_37 ?_
          refine lv_iload_n hx hb dX2_signOn_40 rfl (lv_at hl 0 rfl) ?_
          refine lv_bipush (v := 16) hx hb dX2_signOn_41 (by decide) ?_
          refine lv_imul hx hb dX2_signOn_43 ?_
          refine lv_aload_n hx hb dX2_signOn_44 rfl (lv_at hl 1 rfl) ?_
          refine va_get (D := D) (ci := 2) (v := .ref (fl_ad 4)) (C := RX2) (T := TX2) (N := 15) hx hb hts mi_X2_signOn_X2 hown hK hP 0 rfl rfl 4 (by decide) (hts (.fieldLink RX2 15 "HiringHall$Floor" "listSize" "[I") (List.mem_of_getElem? (i := 3) rfl)) (fun _ h9 => h9) rfl dX2_signOn_45 ?_
          refine lv_iload_n hx hb dX2_signOn_48 rfl (lv_at hl 0 rfl) ?_
          obtain ⟨hi_7, h⟩ := h
          refine va_iald hx hb hK hP 2 0 rfl rfl hi_7 dX2_signOn_49 ?_
          refine lv_iadd hx hb dX2_signOn_50 ?_
          refine lv_iload_n hx hb dX2_signOn_51 rfl (lv_at hl 3 rfl) ?_
          obtain ⟨hi_8, h⟩ := h
          refine va_iast hx hb hK hP hD hS 1 0 rfl rfl hi_8 dX2_signOn_52 (fun H locs hP hD hS => ?_)
          have hP : va_P D vwCl ((wo_X2 cI cZ fl_h fl_ad ru_h cr_h ca_h (upd fl_lists (((y6 * 16) + (fl_listSize (y6.toNatClampNeg))).toNatClampNeg) x2) fl_listSize fl_job fl_jobLast fl_refusals fl_notes fl_laws fl_line fl_lineSize fl_clock fl_callsDone fl_sentInAll) ++ ((wo_X4 cI cZ ru_h ru_ad ru_from ru_voted ru_undone ru_says ru_texts ru_lines) ++ ((wo_X1 cI cZ cr_h cr_ad cr_book cr_signed cr_size cr_latestPaper cr_paperBefore cr_paperLast cr_paperTold cr_papers cr_minutesHere cr_heres) ++ (wo_X0 cI cZ ca_h ca_ad ca_skill ca_days ca_wanted ca_named ca_minute ca_day ca_refusers ca_order ca_size)))) H := hP
          have hD : va_D A ((wo_X2 cI cZ fl_h fl_ad ru_h cr_h ca_h (upd fl_lists (((y6 * 16) + (fl_listSize (y6.toNatClampNeg))).toNatClampNeg) x2) fl_listSize fl_job fl_jobLast fl_refusals fl_notes fl_laws fl_line fl_lineSize fl_clock fl_callsDone fl_sentInAll) ++ ((wo_X4 cI cZ ru_h ru_ad ru_from ru_voted ru_undone ru_says ru_texts ru_lines) ++ ((wo_X1 cI cZ cr_h cr_ad cr_book cr_signed cr_size cr_latestPaper cr_paperBefore cr_paperLast cr_paperTold cr_papers cr_minutesHere cr_heres) ++ (wo_X0 cI cZ ca_h ca_ad ca_skill ca_days ca_wanted ca_named ca_minute ca_day ca_refusers ca_order ca_size)))) := hD
          refine lv_aload_n hx hb dX2_signOn_53 rfl (lv_at hl 1 rfl) ?_
          refine va_get (D := D) (ci := 2) (v := .ref (fl_ad 4)) (C := RX2) (T := TX2) (N := 15) hx hb hts mi_X2_signOn_X2 hown hK hP 0 rfl rfl 4 (by decide) (hts (.fieldLink RX2 15 "HiringHall$Floor" "listSize" "[I") (List.mem_of_getElem? (i := 3) rfl)) (fun _ h9 => h9) rfl dX2_signOn_54 ?_
          refine lv_iload_n hx hb dX2_signOn_57 rfl (lv_at hl 0 rfl) ?_
          refine lv_dup2_11 hx hb dX2_signOn_58 rfl rfl ?_
          obtain ⟨hi_9, h⟩ := h
          refine va_iald hx hb hK hP 2 0 rfl rfl hi_9 dX2_signOn_59 ?_
          refine lv_iconst (v := 1) hx hb dX2_signOn_60 (by decide) ?_
          refine lv_iadd hx hb dX2_signOn_61 ?_
          refine lv_topi (fun y10 e_y10 => ?_)
          have h := h y10 e_y10
          obtain ⟨hi_11, h⟩ := h
          refine va_iast hx hb hK hP hD hS 2 0 rfl rfl hi_11 dX2_signOn_62 (fun H locs hP hD hS => ?_)
          have hP : va_P D vwCl ((wo_X2 cI cZ fl_h fl_ad ru_h cr_h ca_h (upd fl_lists (((y6 * 16) + (fl_listSize (y6.toNatClampNeg))).toNatClampNeg) x2) (upd fl_listSize (y6.toNatClampNeg) y10) fl_job fl_jobLast fl_refusals fl_notes fl_laws fl_line fl_lineSize fl_clock fl_callsDone fl_sentInAll) ++ ((wo_X4 cI cZ ru_h ru_ad ru_from ru_voted ru_undone ru_says ru_texts ru_lines) ++ ((wo_X1 cI cZ cr_h cr_ad cr_book cr_signed cr_size cr_latestPaper cr_paperBefore cr_paperLast cr_paperTold cr_papers cr_minutesHere cr_heres) ++ (wo_X0 cI cZ ca_h ca_ad ca_skill ca_days ca_wanted ca_named ca_minute ca_day ca_refusers ca_order ca_size)))) H := hP
          have hD : va_D A ((wo_X2 cI cZ fl_h fl_ad ru_h cr_h ca_h (upd fl_lists (((y6 * 16) + (fl_listSize (y6.toNatClampNeg))).toNatClampNeg) x2) (upd fl_listSize (y6.toNatClampNeg) y10) fl_job fl_jobLast fl_refusals fl_notes fl_laws fl_line fl_lineSize fl_clock fl_callsDone fl_sentInAll) ++ ((wo_X4 cI cZ ru_h ru_ad ru_from ru_voted ru_undone ru_says ru_texts ru_lines) ++ ((wo_X1 cI cZ cr_h cr_ad cr_book cr_signed cr_size cr_latestPaper cr_paperBefore cr_paperLast cr_paperTold cr_papers cr_minutesHere cr_heres) ++ (wo_X0 cI cZ ca_h ca_ad ca_skill ca_days ca_wanted ca_named ca_minute ca_day ca_refusers ca_order ca_size)))) := hD
          obtain ⟨y12, e_y12⟩ : ∃ y : Int32, y = x2 + 1 := ⟨_, rfl⟩
          have h := h y12 e_y12
          refine lv_iinc (v := y12) (lv' := [(2, .int y12), (3, .int y6), (0, .ref fl_h), (1, .int x1)]) hx hb dX2_signOn_63 hl (k := 3) rfl (by rw [e_y12]; rfl) (by decide) rfl (fun ls hl => ?_)
          refine lv_goto (tgt := 2) hx hb dX2_signOn_66 (by decide) ?_
          exact ih (upd fl_lists (((y6 * 16) + (fl_listSize (y6.toNatClampNeg))).toNatClampNeg) x2) (upd fl_listSize (y6.toNatClampNeg) y10) y12 h _ _ _ hP hD hS (lv_sub hl [2, 3, 0] rfl)
  refine lv_iconst (v := 0) hx hb dX2_signOn_0 (by decide) ?_
  refine lv_istore_n (lv' := [(2, .int 0), (0, .ref fl_h), (1, .int x1)]) hx hb dX2_signOn_1 rfl hl (by decide) rfl (fun ls hl => ?_)
  obtain ⟨n, h⟩ := h
  exact b2  n fl_lists fl_listSize 0 h _ _ _ hP hD hS (lv_sub hl [1, 2, 0] rfl)
def rm_X2_joinLine : Room := { frames := 0, cells := 0, slots := 0, locals := 0 }
theorem mi_X2_joinLine_X2 : ∀ w ∈ wsX20, w ∈ wsX2_joinLine := fun _ h => List.mem_cons_of_mem _ (List.mem_append_right _ h)
set_option maxHeartbeats 4000000 in
set_option maxRecDepth 100000 in
theorem c_X2_joinLine (l : Launch) (D : va_G) (cI cZ : ClassId) (E : (Nat → Nat) × (Nat → Nat)) (fl_h : Nat) (fl_ad : Nat → Nat) (ru_h : Nat) (ru_ad : Nat → Nat) (cr_h : Nat) (cr_ad : Nat → Nat) (ca_h : Nat) (ca_ad : Nat → Nat) (fl_lists : (Nat → Int32)) (fl_listSize : (Nat → Int32)) (fl_job : (Nat → Int32)) (fl_jobLast : (Nat → Int32)) (fl_refusals : (Nat → Int32)) (fl_notes : (Nat → Int32)) (fl_laws : (Nat → Int32)) (fl_line : (Nat → Int32)) (fl_lineSize : Int32) (fl_clock : Int32) (fl_callsDone : Int32) (fl_sentInAll : Int32) (ru_from : (Nat → Int32)) (ru_voted : (Nat → Int32)) (ru_undone : (Nat → Int32)) (ru_says : (Nat → Int32)) (ru_texts : Int32) (ru_lines : Int32) (cr_book : (Nat → Int32)) (cr_signed : (Nat → Int32)) (cr_size : Int32) (cr_latestPaper : (Nat → Int32)) (cr_paperBefore : (Nat → Int32)) (cr_paperLast : (Nat → Int32)) (cr_paperTold : (Nat → Int32)) (cr_papers : Int32) (cr_minutesHere : (Nat → Int32)) (cr_heres : Int32) (ca_skill : (Nat → Int32)) (ca_days : (Nat → Int32)) (ca_wanted : (Nat → Int32)) (ca_named : (Nat → Int32)) (ca_minute : (Nat → Int32)) (ca_day : (Nat → Int32)) (ca_refusers : (Nat → Int32)) (ca_order : (Nat → Int32)) (ca_size : Int32) (x1 : Int32) (K : ((Nat → Int32) → Int32 → Prop)) (h : wp_X2_joinLine fl_line fl_lineSize x1 K) : mk_Cv l D cI cZ E yX2_joinLine wsX2_joinLine rm_X2_joinLine ([.ref fl_h, .int x1] : List Value) ((wo_X2 cI cZ fl_h fl_ad ru_h cr_h ca_h fl_lists fl_listSize fl_job fl_jobLast fl_refusals fl_notes fl_laws fl_line fl_lineSize fl_clock fl_callsDone fl_sentInAll) ++ ((wo_X4 cI cZ ru_h ru_ad ru_from ru_voted ru_undone ru_says ru_texts ru_lines) ++ ((wo_X1 cI cZ cr_h cr_ad cr_book cr_signed cr_size cr_latestPaper cr_paperBefore cr_paperLast cr_paperTold cr_papers cr_minutesHere cr_heres) ++ (wo_X0 cI cZ ca_h ca_ad ca_skill ca_days ca_wanted ca_named ca_minute ca_day ca_refusers ca_order ca_size)))) (fun (u : (Nat → Int32) × Int32) => ((wo_X2 cI cZ fl_h fl_ad ru_h cr_h ca_h fl_lists fl_listSize fl_job fl_jobLast fl_refusals fl_notes fl_laws u.1 u.2 fl_clock fl_callsDone fl_sentInAll) ++ ((wo_X4 cI cZ ru_h ru_ad ru_from ru_voted ru_undone ru_says ru_texts ru_lines) ++ ((wo_X1 cI cZ cr_h cr_ad cr_book cr_signed cr_size cr_latestPaper cr_paperBefore cr_paperLast cr_paperTold cr_papers cr_minutesHere cr_heres) ++ (wo_X0 cI cZ ca_h ca_ad ca_skill ca_days ca_wanted ca_named ca_minute ca_day ca_refusers ca_order ca_size))))) (fun (u : (Nat → Int32) × Int32) => K u.1 u.2) := by
  intro sz
  refine Met.ofW (cc := cX2_joinLine) (maxL := 2) (ret := none) (by decide) rfl ?_
  intro p e s m args below meth c s₁ B hml hv
  obtain ⟨rfl, hsz, hP, hK, hD0, hN, hE⟩ := hv
  have hx := B.exec
  have hb := B.bytes
  have hr := B.returns
  have hts := atoms_spec (ws := wsX2_joinLine) B.pre
  have hown : s.vm.findClass RX2 = some m.cls := findClass_of_methodNamed B.named
  have hlocks := B.notSynchronized
  subst hsz
  have hD := hD0.self (sz := s.heap.size)
  generalize hAe : va_A ((wo_X2 cI cZ fl_h fl_ad ru_h cr_h ca_h fl_lists fl_listSize fl_job fl_jobLast fl_refusals fl_notes fl_laws fl_line fl_lineSize fl_clock fl_callsDone fl_sentInAll) ++ ((wo_X4 cI cZ ru_h ru_ad ru_from ru_voted ru_undone ru_says ru_texts ru_lines) ++ ((wo_X1 cI cZ cr_h cr_ad cr_book cr_signed cr_size cr_latestPaper cr_paperBefore cr_paperLast cr_paperTold cr_papers cr_minutesHere cr_heres) ++ (wo_X0 cI cZ ca_h ca_ad ca_skill ca_days ca_wanted ca_named ca_minute ca_day ca_refusers ca_order ca_size)))) s.heap.size = A at hD hE ⊢
  have hA : ∀ q : Nat, s.heap.size ≤ q → A q := fun q h => by rw [← hAe]; exact Or.inr h
  have hl := lv_entry ([.ref fl_h, .int x1] : List Value) (n := 2) (Nat.le_of_ble_eq_true rfl)
  rw [lg_entry_eq]
  generalize (lg_sl ([.ref fl_h, .int x1] : List Value) ++ List.replicate (2 - (lg_sl ([.ref fl_h, .int x1] : List Value)).length) Slot.unset).toArray = ls at hl ⊢
  have hl : lv_has ls 2 [(0, .ref fl_h), (1, .int x1)] := hl
  refine mk_absQ (P := fun Q => W p l e _ s m _ below meth c s.heap [] 0 0 Q _) (fun Q hQ => ?_)
  refine mk_absH (P := fun H => W p l e _ s m _ below meth c H [] 0 0 Q _) (fun H hH => ?_)
  have hP : va_P D vwCl ((wo_X2 cI cZ fl_h fl_ad ru_h cr_h ca_h fl_lists fl_listSize fl_job fl_jobLast fl_refusals fl_notes fl_laws fl_line fl_lineSize fl_clock fl_callsDone fl_sentInAll) ++ ((wo_X4 cI cZ ru_h ru_ad ru_from ru_voted ru_undone ru_says ru_texts ru_lines) ++ ((wo_X1 cI cZ cr_h cr_ad cr_book cr_signed cr_size cr_latestPaper cr_paperBefore cr_paperLast cr_paperTold cr_papers cr_minutesHere cr_heres) ++ (wo_X0 cI cZ ca_h ca_ad ca_skill ca_days ca_wanted ca_named ca_minute ca_day ca_refusers ca_order ca_size)))) H := by rw [hH]; exact hP
  have hS : va_S A s.heap H [] := by rw [hH]; exact va_S.rf
  refine lv_aload_n hx hb dX2_joinLine_0 rfl (lv_at hl 0 rfl) ?_
  refine va_get (D := D) (ci := 2) (v := .int fl_lineSize) (C := RX2) (T := TX2) (N := 15) hx hb hts mi_X2_joinLine_X2 hown hK hP 0 rfl rfl 11 (by decide) (hts (.fieldLink RX2 116 "HiringHall$Floor" "lineSize" "I") (List.mem_of_getElem? (i := 1) rfl)) (fun _ h9 => h9) rfl dX2_joinLine_1 ?_
  refine lv_aload_n hx hb dX2_joinLine_4 rfl (lv_at hl 0 rfl) ?_
  refine va_get (D := D) (ci := 2) (v := .ref (fl_ad 10)) (C := RX2) (T := TX2) (N := 15) hx hb hts mi_X2_joinLine_X2 hown hK hP 0 rfl rfl 10 (by decide) (hts (.fieldLink RX2 33 "HiringHall$Floor" "line" "[I") (List.mem_of_getElem? (i := 2) rfl)) (fun _ h9 => h9) rfl dX2_joinLine_5 ?_
  refine va_alen (v := 16) hx hb hK hP 8 0 rfl (ty := .int) rfl rfl dX2_joinLine_8 ?_
  refine lv_icmp_ge (tgt := 32) hx hb dX2_joinLine_9 (by decide) (fun c_1 => ?_) (fun c_1 => ?_)
  · have h := h.1 c_1
    rw [hQ]
    exact W.vret hx hb hr (fun t ht hW => ⟨⟨(fl_line, fl_lineSize), rfl, h, by rw [ht]; exact hP, va_K.moved hW.alike hK, hD⟩, hS.F ht⟩) hS.2.2 dX2_joinLine_32
  · have h := h.2 c_1
    refine lv_aload_n hx hb dX2_joinLine_12 rfl (lv_at hl 0 rfl) ?_
    refine va_get (D := D) (ci := 2) (v := .ref (fl_ad 10)) (C := RX2) (T := TX2) (N := 15) hx hb hts mi_X2_joinLine_X2 hown hK hP 0 rfl rfl 10 (by decide) (hts (.fieldLink RX2 33 "HiringHall$Floor" "line" "[I") (List.mem_of_getElem? (i := 2) rfl)) (fun _ h9 => h9) rfl dX2_joinLine_13 ?_
    refine lv_aload_n hx hb dX2_joinLine_16 rfl (lv_at hl 0 rfl) ?_
    refine va_get (D := D) (ci := 2) (v := .int fl_lineSize) (C := RX2) (T := TX2) (N := 15) hx hb hts mi_X2_joinLine_X2 hown hK hP 0 rfl rfl 11 (by decide) (hts (.fieldLink RX2 116 "HiringHall$Floor" "lineSize" "I") (List.mem_of_getElem? (i := 1) rfl)) (fun _ h9 => h9) rfl dX2_joinLine_17 ?_
    refine lv_iload_n hx hb dX2_joinLine_20 rfl (lv_at hl 1 rfl) ?_
    obtain ⟨hi_2, h⟩ := h
    refine va_iast hx hb hK hP hD hS 8 0 rfl rfl hi_2 dX2_joinLine_21 (fun H locs hP hD hS => ?_)
    have hP : va_P D vwCl ((wo_X2 cI cZ fl_h fl_ad ru_h cr_h ca_h fl_lists fl_listSize fl_job fl_jobLast fl_refusals fl_notes fl_laws (upd fl_line (fl_lineSize.toNatClampNeg) x1) fl_lineSize fl_clock fl_callsDone fl_sentInAll) ++ ((wo_X4 cI cZ ru_h ru_ad ru_from ru_voted ru_undone ru_says ru_texts ru_lines) ++ ((wo_X1 cI cZ cr_h cr_ad cr_book cr_signed cr_size cr_latestPaper cr_paperBefore cr_paperLast cr_paperTold cr_papers cr_minutesHere cr_heres) ++ (wo_X0 cI cZ ca_h ca_ad ca_skill ca_days ca_wanted ca_named ca_minute ca_day ca_refusers ca_order ca_size)))) H := hP
    have hD : va_D A ((wo_X2 cI cZ fl_h fl_ad ru_h cr_h ca_h fl_lists fl_listSize fl_job fl_jobLast fl_refusals fl_notes fl_laws (upd fl_line (fl_lineSize.toNatClampNeg) x1) fl_lineSize fl_clock fl_callsDone fl_sentInAll) ++ ((wo_X4 cI cZ ru_h ru_ad ru_from ru_voted ru_undone ru_says ru_texts ru_lines) ++ ((wo_X1 cI cZ cr_h cr_ad cr_book cr_signed cr_size cr_latestPaper cr_paperBefore cr_paperLast cr_paperTold cr_papers cr_minutesHere cr_heres) ++ (wo_X0 cI cZ ca_h ca_ad ca_skill ca_days ca_wanted ca_named ca_minute ca_day ca_refusers ca_order ca_size)))) := hD
    refine lv_aload_n hx hb dX2_joinLine_22 rfl (lv_at hl 0 rfl) ?_
    refine lv_dup hx hb dX2_joinLine_23 rfl ?_
    refine va_get (D := D) (ci := 2) (v := .int fl_lineSize) (C := RX2) (T := TX2) (N := 15) hx hb hts mi_X2_joinLine_X2 hown hK hP 0 rfl rfl 11 (by decide) (hts (.fieldLink RX2 116 "HiringHall$Floor" "lineSize" "I") (List.mem_of_getElem? (i := 1) rfl)) (fun _ h9 => h9) rfl dX2_joinLine_24 ?_
    refine lv_iconst (v := 1) hx hb dX2_joinLine_27 (by decide) ?_
    refine lv_iadd hx hb dX2_joinLine_28 ?_
    refine lv_topi (fun y3 e_y3 => ?_)
    have h := h y3 e_y3
    refine va_put (D := D) (ci := 2) (v := .int y3) (ty := .int) (C := RX2) (T := TX2) (N := 15) hx hb hts mi_X2_joinLine_X2 tyX2 tyX2_ok nmX2 hown hK hP hD hS 0 rfl rfl 11 (by decide) (hts (.fieldLink RX2 116 "HiringHall$Floor" "lineSize" "I") (List.mem_of_getElem? (i := 1) rfl)) (fun _ h9 => h9) rfl (by decide +kernel) rfl rfl (Nat.le_of_ble_eq_true rfl) dX2_joinLine_29 (fun H locs hP hD hS => ?_)
    have hP : va_P D vwCl ((wo_X2 cI cZ fl_h fl_ad ru_h cr_h ca_h fl_lists fl_listSize fl_job fl_jobLast fl_refusals fl_notes fl_laws (upd fl_line (fl_lineSize.toNatClampNeg) x1) y3 fl_clock fl_callsDone fl_sentInAll) ++ ((wo_X4 cI cZ ru_h ru_ad ru_from ru_voted ru_undone ru_says ru_texts ru_lines) ++ ((wo_X1 cI cZ cr_h cr_ad cr_book cr_signed cr_size cr_latestPaper cr_paperBefore cr_paperLast cr_paperTold cr_papers cr_minutesHere cr_heres) ++ (wo_X0 cI cZ ca_h ca_ad ca_skill ca_days ca_wanted ca_named ca_minute ca_day ca_refusers ca_order ca_size)))) H := hP
    have hD : va_D A ((wo_X2 cI cZ fl_h fl_ad ru_h cr_h ca_h fl_lists fl_listSize fl_job fl_jobLast fl_refusals fl_notes fl_laws (upd fl_line (fl_lineSize.toNatClampNeg) x1) y3 fl_clock fl_callsDone fl_sentInAll) ++ ((wo_X4 cI cZ ru_h ru_ad ru_from ru_voted ru_undone ru_says ru_texts ru_lines) ++ ((wo_X1 cI cZ cr_h cr_ad cr_book cr_signed cr_size cr_latestPaper cr_paperBefore cr_paperLast cr_paperTold cr_papers cr_minutesHere cr_heres) ++ (wo_X0 cI cZ ca_h ca_ad ca_skill ca_days ca_wanted ca_named ca_minute ca_day ca_refusers ca_order ca_size)))) := hD
    rw [hQ]
    exact W.vret hx hb hr (fun t ht hW => ⟨⟨((upd fl_line (fl_lineSize.toNatClampNeg) x1), y3), rfl, h, by rw [ht]; exact hP, va_K.moved hW.alike hK, hD⟩, hS.F ht⟩) hS.2.2 dX2_joinLine_32
def rm_X2_lineUp : Room := { frames := 1, cells := 0, slots := 0, locals := 21 }
theorem mi_X2_lineUp_X0 : ∀ w ∈ wsX00, w ∈ wsX2_lineUp := fun _ h => List.mem_cons_of_mem _ (List.mem_append_left _ (List.mem_append_right _ h))
theorem mi_X2_lineUp_X1 : ∀ w ∈ wsX10, w ∈ wsX2_lineUp := fun _ h => List.mem_cons_of_mem _ (List.mem_append_right _ h)
theorem mi_X2_lineUp_X2 : ∀ w ∈ wsX20, w ∈ wsX2_lineUp := fun _ h => List.mem_cons_of_mem _ (List.mem_append_left _ (List.mem_append_left _ (List.mem_append_right _ h)))
set_option maxHeartbeats 4000000 in
set_option maxRecDepth 100000 in
theorem c_X2_lineUp (l : Launch) (D : va_G) (cI cZ : ClassId) (E : (Nat → Nat) × (Nat → Nat)) (fl_h : Nat) (fl_ad : Nat → Nat) (ru_h : Nat) (ru_ad : Nat → Nat) (cr_h : Nat) (cr_ad : Nat → Nat) (ca_h : Nat) (ca_ad : Nat → Nat) (fl_lists : (Nat → Int32)) (fl_listSize : (Nat → Int32)) (fl_job : (Nat → Int32)) (fl_jobLast : (Nat → Int32)) (fl_refusals : (Nat → Int32)) (fl_notes : (Nat → Int32)) (fl_laws : (Nat → Int32)) (fl_line : (Nat → Int32)) (fl_lineSize : Int32) (fl_clock : Int32) (fl_callsDone : Int32) (fl_sentInAll : Int32) (ru_from : (Nat → Int32)) (ru_voted : (Nat → Int32)) (ru_undone : (Nat → Int32)) (ru_says : (Nat → Int32)) (ru_texts : Int32) (ru_lines : Int32) (cr_book : (Nat → Int32)) (cr_signed : (Nat → Int32)) (cr_size : Int32) (cr_latestPaper : (Nat → Int32)) (cr_paperBefore : (Nat → Int32)) (cr_paperLast : (Nat → Int32)) (cr_paperTold : (Nat → Int32)) (cr_papers : Int32) (cr_minutesHere : (Nat → Int32)) (cr_heres : Int32) (ca_skill : (Nat → Int32)) (ca_days : (Nat → Int32)) (ca_wanted : (Nat → Int32)) (ca_named : (Nat → Int32)) (ca_minute : (Nat → Int32)) (ca_day : (Nat → Int32)) (ca_refusers : (Nat → Int32)) (ca_order : (Nat → Int32)) (ca_size : Int32) (x1 : Int32) (K : ((Nat → Int32) → Int32 → Prop)) (h : wp_X2_lineUp fl_lists fl_listSize fl_laws fl_line fl_lineSize cr_book ca_named x1 K) : mk_Cv l D cI cZ E yX2_lineUp wsX2_lineUp rm_X2_lineUp ([.ref fl_h, .int x1] : List Value) ((wo_X2 cI cZ fl_h fl_ad ru_h cr_h ca_h fl_lists fl_listSize fl_job fl_jobLast fl_refusals fl_notes fl_laws fl_line fl_lineSize fl_clock fl_callsDone fl_sentInAll) ++ ((wo_X4 cI cZ ru_h ru_ad ru_from ru_voted ru_undone ru_says ru_texts ru_lines) ++ ((wo_X1 cI cZ cr_h cr_ad cr_book cr_signed cr_size cr_latestPaper cr_paperBefore cr_paperLast cr_paperTold cr_papers cr_minutesHere cr_heres) ++ (wo_X0 cI cZ ca_h ca_ad ca_skill ca_days ca_wanted ca_named ca_minute ca_day ca_refusers ca_order ca_size)))) (fun (u : (Nat → Int32) × Int32) => ((wo_X2 cI cZ fl_h fl_ad ru_h cr_h ca_h fl_lists fl_listSize fl_job fl_jobLast fl_refusals fl_notes fl_laws u.1 u.2 fl_clock fl_callsDone fl_sentInAll) ++ ((wo_X4 cI cZ ru_h ru_ad ru_from ru_voted ru_undone ru_says ru_texts ru_lines) ++ ((wo_X1 cI cZ cr_h cr_ad cr_book cr_signed cr_size cr_latestPaper cr_paperBefore cr_paperLast cr_paperTold cr_papers cr_minutesHere cr_heres) ++ (wo_X0 cI cZ ca_h ca_ad ca_skill ca_days ca_wanted ca_named ca_minute ca_day ca_refusers ca_order ca_size))))) (fun (u : (Nat → Int32) × Int32) => K u.1 u.2) := by
  intro sz
  refine Met.ofW (cc := cX2_lineUp) (maxL := 7) (ret := none) (by decide) rfl ?_
  intro p e s m args below meth c s₁ B hml hv
  obtain ⟨rfl, hsz, hP, hK, hD0, hN, hE⟩ := hv
  have hx := B.exec
  have hb := B.bytes
  have hr := B.returns
  have hts := atoms_spec (ws := wsX2_lineUp) B.pre
  have hown : s.vm.findClass RX2 = some m.cls := findClass_of_methodNamed B.named
  have hlocks := B.notSynchronized
  subst hsz
  have hD := hD0.self (sz := s.heap.size)
  generalize hAe : va_A ((wo_X2 cI cZ fl_h fl_ad ru_h cr_h ca_h fl_lists fl_listSize fl_job fl_jobLast fl_refusals fl_notes fl_laws fl_line fl_lineSize fl_clock fl_callsDone fl_sentInAll) ++ ((wo_X4 cI cZ ru_h ru_ad ru_from ru_voted ru_undone ru_says ru_texts ru_lines) ++ ((wo_X1 cI cZ cr_h cr_ad cr_book cr_signed cr_size cr_latestPaper cr_paperBefore cr_paperLast cr_paperTold cr_papers cr_minutesHere cr_heres) ++ (wo_X0 cI cZ ca_h ca_ad ca_skill ca_days ca_wanted ca_named ca_minute ca_day ca_refusers ca_order ca_size)))) s.heap.size = A at hD hE ⊢
  have hA : ∀ q : Nat, s.heap.size ≤ q → A q := fun q h => by rw [← hAe]; exact Or.inr h
  have hl := lv_entry ([.ref fl_h, .int x1] : List Value) (n := 7) (Nat.le_of_ble_eq_true rfl)
  rw [lg_entry_eq]
  generalize (lg_sl ([.ref fl_h, .int x1] : List Value) ++ List.replicate (7 - (lg_sl ([.ref fl_h, .int x1] : List Value)).length) Slot.unset).toArray = ls at hl ⊢
  have hl : lv_has ls 7 [(0, .ref fl_h), (1, .int x1)] := hl
  refine mk_absQ (P := fun Q => W p l e _ s m _ below meth c s.heap [] 0 0 Q _) (fun Q hQ => ?_)
  refine mk_absH (P := fun H => W p l e _ s m _ below meth c H [] 0 0 Q _) (fun H hH => ?_)
  have hP : va_P D vwCl ((wo_X2 cI cZ fl_h fl_ad ru_h cr_h ca_h fl_lists fl_listSize fl_job fl_jobLast fl_refusals fl_notes fl_laws fl_line fl_lineSize fl_clock fl_callsDone fl_sentInAll) ++ ((wo_X4 cI cZ ru_h ru_ad ru_from ru_voted ru_undone ru_says ru_texts ru_lines) ++ ((wo_X1 cI cZ cr_h cr_ad cr_book cr_signed cr_size cr_latestPaper cr_paperBefore cr_paperLast cr_paperTold cr_papers cr_minutesHere cr_heres) ++ (wo_X0 cI cZ ca_h ca_ad ca_skill ca_days ca_wanted ca_named ca_minute ca_day ca_refusers ca_order ca_size)))) H := by rw [hH]; exact hP
  have hS : va_S A s.heap H [] := by rw [hH]; exact va_S.rf
  have b80 : ∀ (k71 : ((Nat → Int32) → Int32 → Int32 → Int32 → Int32 → Prop)), (∀ (fl_line : (Nat → Int32)) (fl_lineSize : Int32) (x2 : Int32) (x3 : Int32) (x4 : Int32), k71 fl_line fl_lineSize x2 x3 x4 → ∀ (H : Heap) (locs : List Loc) (ls : Array Slot), va_P D vwCl ((wo_X2 cI cZ fl_h fl_ad ru_h cr_h ca_h fl_lists fl_listSize fl_job fl_jobLast fl_refusals fl_notes fl_laws fl_line fl_lineSize fl_clock fl_callsDone fl_sentInAll) ++ ((wo_X4 cI cZ ru_h ru_ad ru_from ru_voted ru_undone ru_says ru_texts ru_lines) ++ ((wo_X1 cI cZ cr_h cr_ad cr_book cr_signed cr_size cr_latestPaper cr_paperBefore cr_paperLast cr_paperTold cr_papers cr_minutesHere cr_heres) ++ (wo_X0 cI cZ ca_h ca_ad ca_skill ca_days ca_wanted ca_named ca_minute ca_day ca_refusers ca_order ca_size)))) H → va_D A ((wo_X2 cI cZ fl_h fl_ad ru_h cr_h ca_h fl_lists fl_listSize fl_job fl_jobLast fl_refusals fl_notes fl_laws fl_line fl_lineSize fl_clock fl_callsDone fl_sentInAll) ++ ((wo_X4 cI cZ ru_h ru_ad ru_from ru_voted ru_undone ru_says ru_texts ru_lines) ++ ((wo_X1 cI cZ cr_h cr_ad cr_book cr_signed cr_size cr_latestPaper cr_paperBefore cr_paperLast cr_paperTold cr_papers cr_minutesHere cr_heres) ++ (wo_X0 cI cZ ca_h ca_ad ca_skill ca_days ca_wanted ca_named ca_minute ca_day ca_refusers ca_order ca_size)))) → va_S A s.heap H locs → lv_has ls 7 [(0, .ref fl_h), (2, .int x2), (3, .int x3), (4, .int x4)] → W p l e (headSpec wsX2_lineUp rm_X2_lineUp).room s m ([.ref fl_h, .int x1] : List Value).toArray below meth c H locs 0 0 Q (F0 m 71 ls [])) → ∀ (n : Nat), ∀ (fl_line : (Nat → Int32)) (fl_lineSize : Int32) (x2 : Int32) (x3 : Int32) (x4 : Int32) (x5 : Int32), wp_X2_lineUp_b80 K k71 fl_lists fl_listSize n fl_line fl_lineSize x2 x3 x4 x5 → ∀ (H : Heap) (locs : List Loc) (ls : Array Slot), va_P D vwCl ((wo_X2 cI cZ fl_h fl_ad ru_h cr_h ca_h fl_lists fl_listSize fl_job fl_jobLast fl_refusals fl_notes fl_laws fl_line fl_lineSize fl_clock fl_callsDone fl_sentInAll) ++ ((wo_X4 cI cZ ru_h ru_ad ru_from ru_voted ru_undone ru_says ru_texts ru_lines) ++ ((wo_X1 cI cZ cr_h cr_ad cr_book cr_signed cr_size cr_latestPaper cr_paperBefore cr_paperLast cr_paperTold cr_papers cr_minutesHere cr_heres) ++ (wo_X0 cI cZ ca_h ca_ad ca_skill ca_days ca_wanted ca_named ca_minute ca_day ca_refusers ca_order ca_size)))) H → va_D A ((wo_X2 cI cZ fl_h fl_ad ru_h cr_h ca_h fl_lists fl_listSize fl_job fl_jobLast fl_refusals fl_notes fl_laws fl_line fl_lineSize fl_clock fl_callsDone fl_sentInAll) ++ ((wo_X4 cI cZ ru_h ru_ad ru_from ru_voted ru_undone ru_says ru_texts ru_lines) ++ ((wo_X1 cI cZ cr_h cr_ad cr_book cr_signed cr_size cr_latestPaper cr_paperBefore cr_paperLast cr_paperTold cr_papers cr_minutesHere cr_heres) ++ (wo_X0 cI cZ ca_h ca_ad ca_skill ca_days ca_wanted ca_named ca_minute ca_day ca_refusers ca_order ca_size)))) → va_S A s.heap H locs → lv_has ls 7 [(0, .ref fl_h), (2, .int x2), (3, .int x3), (4, .int x4), (5, .int x5)] → W p l e (headSpec wsX2_lineUp rm_X2_lineUp).room s m ([.ref fl_h, .int x1] : List Value).toArray below meth c H locs 0 0 Q (F0 m 80 ls []) := by
    intro k71 hk71 n
    induction n with
    | zero => intro fl_line fl_lineSize x2 x3 x4 x5 h; exact False.elim h
    | succ n ih =>
      intro fl_line fl_lineSize x2 x3 x4 x5 h H locs ls hP hD hS hl
      refine lv_iload hx hb dX2_lineUp_80 (lv_at hl 4 rfl) ?_
      refine lv_aload_n hx hb dX2_lineUp_82 rfl (lv_at hl 0 rfl) ?_
      refine va_get (D := D) (ci := 2) (v := .ref (fl_ad 4)) (C := RX2) (T := TX2) (N := 15) hx hb hts mi_X2_lineUp_X2 hown hK hP 0 rfl rfl 4 (by decide) (hts (.fieldLink RX2 15 "HiringHall$Floor" "listSize" "[I") (List.mem_of_getElem? (i := 5) rfl)) (fun _ h9 => h9) rfl dX2_lineUp_83 ?_
      refine lv_iload hx hb dX2_lineUp_86 (lv_at hl 3 rfl) ?_
      obtain ⟨hi_1, h⟩ := h
      refine va_iald hx hb hK hP 2 0 rfl rfl hi_1 dX2_lineUp_88 ?_
      refine lv_icmp_ge (tgt := 125) hx hb dX2_lineUp_89 (by decide) (fun c_2 => ?_) (fun c_2 => ?_)
      · have h := h.1 c_2
        obtain ⟨y3, e_y3⟩ : ∃ y : Int32, y = x4 + 1 := ⟨_, rfl⟩
        have h := h y3 e_y3
        refine lv_iinc (v := y3) (lv' := [(4, .int y3), (0, .ref fl_h), (2, .int x2), (3, .int x3), (5, .int x5)]) hx hb dX2_lineUp_125 hl (k := 3) rfl (by rw [e_y3]; rfl) (by decide) rfl (fun ls hl => ?_)
        refine lv_goto (tgt := 71) hx hb dX2_lineUp_128 (by decide) ?_
        exact hk71 fl_line fl_lineSize x2 x3 y3 h _ _ _ hP hD hS (lv_sub hl [1, 2, 3, 0] rfl)
      · have h := h.2 c_2
        refine lv_aload_n hx hb dX2_lineUp_92 rfl (lv_at hl 0 rfl) ?_
        refine va_get (D := D) (ci := 2) (v := .ref (fl_ad 3)) (C := RX2) (T := TX2) (N := 15) hx hb hts mi_X2_lineUp_X2 hown hK hP 0 rfl rfl 3 (by decide) (hts (.fieldLink RX2 9 "HiringHall$Floor" "lists" "[I") (List.mem_of_getElem? (i := 6) rfl)) (fun _ h9 => h9) rfl dX2_lineUp_93 ?_
        refine lv_iload hx hb dX2_lineUp_96 (lv_at hl 3 rfl) ?_
        refine lv_bipush (v := 16) hx hb dX2_lineUp_98 (by decide) ?_
        refine lv_imul hx hb dX2_lineUp_100 ?_
        refine lv_iload hx hb dX2_lineUp_101 (lv_at hl 4 rfl) ?_
        refine lv_iadd hx hb dX2_lineUp_103 ?_
        obtain ⟨hi_4, h⟩ := h
        refine va_iald hx hb hK hP 1 0 rfl rfl hi_4 dX2_lineUp_104 ?_
        refine lv_topi (fun y5 e_y5 => ?_)
        have h := h y5 e_y5
        refine lv_istore (lv' := [(6, .int y5), (0, .ref fl_h), (2, .int x2), (3, .int x3), (4, .int x4), (5, .int x5)]) hx hb dX2_lineUp_105 hl (by decide) rfl (fun ls hl => ?_)
        refine lv_iload hx hb dX2_lineUp_107 (lv_at hl 0 rfl) ?_
        refine lv_iload_n hx hb dX2_lineUp_109 rfl (lv_at hl 2 rfl) ?_
        refine lv_icmp_eq (tgt := 119) hx hb dX2_lineUp_110 (by decide) (fun c_6 => ?_) (fun c_6 => ?_)
        · have h := h.1 c_6
          obtain ⟨y7, e_y7⟩ : ∃ y : Int32, y = x5 + 1 := ⟨_, rfl⟩
          have h := h y7 e_y7
          refine lv_iinc (v := y7) (lv' := [(5, .int y7), (6, .int y5), (0, .ref fl_h), (2, .int x2), (3, .int x3), (4, .int x4)]) hx hb dX2_lineUp_119 hl (k := 5) rfl (by rw [e_y7]; rfl) (by decide) rfl (fun ls hl => ?_)
          refine lv_goto (tgt := 80) hx hb dX2_lineUp_122 (by decide) ?_
          exact ih fl_line fl_lineSize x2 x3 x4 y7 h _ _ _ hP hD hS (lv_sub hl [2, 3, 4, 5, 0] rfl)
        · have h := h.2 c_6
          refine lv_aload_n hx hb dX2_lineUp_113 rfl (lv_at hl 1 rfl) ?_
          refine lv_iload hx hb dX2_lineUp_114 (lv_at hl 0 rfl) ?_
          have hP : va_P D vwCl ((fun v => v) ((wo_X2 cI cZ fl_h fl_ad ru_h cr_h ca_h fl_lists fl_listSize fl_job fl_jobLast fl_refusals fl_notes fl_laws fl_line fl_lineSize fl_clock fl_callsDone fl_sentInAll) ++ ((wo_X4 cI cZ ru_h ru_ad ru_from ru_voted ru_undone ru_says ru_texts ru_lines) ++ ((wo_X1 cI cZ cr_h cr_ad cr_book cr_signed cr_size cr_latestPaper cr_paperBefore cr_paperLast cr_paperTold cr_papers cr_minutesHere cr_heres) ++ (wo_X0 cI cZ ca_h ca_ad ca_skill ca_days ca_wanted ca_named ca_minute ca_day ca_refusers ca_order ca_size))))) H := hP
          have hD : va_D A ((fun v => v) ((wo_X2 cI cZ fl_h fl_ad ru_h cr_h ca_h fl_lists fl_listSize fl_job fl_jobLast fl_refusals fl_notes fl_laws fl_line fl_lineSize fl_clock fl_callsDone fl_sentInAll) ++ ((wo_X4 cI cZ ru_h ru_ad ru_from ru_voted ru_undone ru_says ru_texts ru_lines) ++ ((wo_X1 cI cZ cr_h cr_ad cr_book cr_signed cr_size cr_latestPaper cr_paperBefore cr_paperLast cr_paperTold cr_papers cr_minutesHere cr_heres) ++ (wo_X0 cI cZ ca_h ca_ad ca_skill ca_days ca_wanted ca_named ca_minute ca_day ca_refusers ca_order ca_size))))) := hD
          refine mk_cv (f := fun v => v) mk_fr_id (va_runV (As := [.int y5]) (rest := []) ⟨hx, hb, hml, hown, hts⟩ (c_X2_joinLine l D cI cZ E fl_h fl_ad ru_h ru_ad cr_h cr_ad ca_h ca_ad fl_lists fl_listSize fl_job fl_jobLast fl_refusals fl_notes fl_laws fl_line fl_lineSize fl_clock fl_callsDone fl_sentInAll ru_from ru_voted ru_undone ru_says ru_texts ru_lines cr_book cr_signed cr_size cr_latestPaper cr_paperBefore cr_paperLast cr_paperTold cr_papers cr_minutesHere cr_heres ca_skill ca_days ca_wanted ca_named ca_minute ca_day ca_refusers ca_order ca_size y5 _ h H.size) (cwV 1 hts gX2_lineUp_X2_joinLine rfl rfl rfl (by decide +kernel) ⟨Nat.le_of_ble_eq_true rfl, Nat.le_of_ble_eq_true rfl⟩) (mk_preV (ci := 2) mk_fr_id hK hN hE hS hA hP hD rfl rfl) rfl rfl hl.1 rfl (lv_room (Nat.le_of_ble_eq_true rfl)) dX2_lineUp_116 ⟨Nat.le_of_ble_eq_true rfl, Nat.le_of_ble_eq_true rfl⟩) hP hD hS hA (fun u H locs h hP hD hS => ?_)
          obtain ⟨a8, y9⟩ := u
          try dsimp only at h
          have hP : va_P D vwCl ((wo_X2 cI cZ fl_h fl_ad ru_h cr_h ca_h fl_lists fl_listSize fl_job fl_jobLast fl_refusals fl_notes fl_laws a8 y9 fl_clock fl_callsDone fl_sentInAll) ++ ((wo_X4 cI cZ ru_h ru_ad ru_from ru_voted ru_undone ru_says ru_texts ru_lines) ++ ((wo_X1 cI cZ cr_h cr_ad cr_book cr_signed cr_size cr_latestPaper cr_paperBefore cr_paperLast cr_paperTold cr_papers cr_minutesHere cr_heres) ++ (wo_X0 cI cZ ca_h ca_ad ca_skill ca_days ca_wanted ca_named ca_minute ca_day ca_refusers ca_order ca_size)))) H := hP
          have hD : va_D A ((wo_X2 cI cZ fl_h fl_ad ru_h cr_h ca_h fl_lists fl_listSize fl_job fl_jobLast fl_refusals fl_notes fl_laws a8 y9 fl_clock fl_callsDone fl_sentInAll) ++ ((wo_X4 cI cZ ru_h ru_ad ru_from ru_voted ru_undone ru_says ru_texts ru_lines) ++ ((wo_X1 cI cZ cr_h cr_ad cr_book cr_signed cr_size cr_latestPaper cr_paperBefore cr_paperLast cr_paperTold cr_papers cr_minutesHere cr_heres) ++ (wo_X0 cI cZ ca_h ca_ad ca_skill ca_days ca_wanted ca_named ca_minute ca_day ca_refusers ca_order ca_size)))) := hD
          obtain ⟨y10, e_y10⟩ : ∃ y : Int32, y = x5 + 1 := ⟨_, rfl⟩
          have h := h y10 e_y10
          refine lv_iinc (v := y10) (lv' := [(5, .int y10), (6, .int y5), (0, .ref fl_h), (2, .int x2), (3, .int x3), (4, .int x4)]) hx hb dX2_lineUp_119 hl (k := 5) rfl (by rw [e_y10]; rfl) (by decide) rfl (fun ls hl => ?_)
          refine lv_goto (tgt := 80) hx hb dX2_lineUp_122 (by decide) ?_
          exact ih a8 y9 x2 x3 x4 y10 h _ _ _ hP hD hS (lv_sub hl [2, 3, 4, 5, 0] rfl)
  have b71 : ∀ (n : Nat), ∀ (fl_line : (Nat → Int32)) (fl_lineSize : Int32) (x2 : Int32) (x3 : Int32) (x4 : Int32), wp_X2_lineUp_b71 K fl_lists fl_listSize n fl_line fl_lineSize x2 x3 x4 → ∀ (H : Heap) (locs : List Loc) (ls : Array Slot), va_P D vwCl ((wo_X2 cI cZ fl_h fl_ad ru_h cr_h ca_h fl_lists fl_listSize fl_job fl_jobLast fl_refusals fl_notes fl_laws fl_line fl_lineSize fl_clock fl_callsDone fl_sentInAll) ++ ((wo_X4 cI cZ ru_h ru_ad ru_from ru_voted ru_undone ru_says ru_texts ru_lines) ++ ((wo_X1 cI cZ cr_h cr_ad cr_book cr_signed cr_size cr_latestPaper cr_paperBefore cr_paperLast cr_paperTold cr_papers cr_minutesHere cr_heres) ++ (wo_X0 cI cZ ca_h ca_ad ca_skill ca_days ca_wanted ca_named ca_minute ca_day ca_refusers ca_order ca_size)))) H → va_D A ((wo_X2 cI cZ fl_h fl_ad ru_h cr_h ca_h fl_lists fl_listSize fl_job fl_jobLast fl_refusals fl_notes fl_laws fl_line fl_lineSize fl_clock fl_callsDone fl_sentInAll) ++ ((wo_X4 cI cZ ru_h ru_ad ru_from ru_voted ru_undone ru_says ru_texts ru_lines) ++ ((wo_X1 cI cZ cr_h cr_ad cr_book cr_signed cr_size cr_latestPaper cr_paperBefore cr_paperLast cr_paperTold cr_papers cr_minutesHere cr_heres) ++ (wo_X0 cI cZ ca_h ca_ad ca_skill ca_days ca_wanted ca_named ca_minute ca_day ca_refusers ca_order ca_size)))) → va_S A s.heap H locs → lv_has ls 7 [(0, .ref fl_h), (2, .int x2), (3, .int x3), (4, .int x4)] → W p l e (headSpec wsX2_lineUp rm_X2_lineUp).room s m ([.ref fl_h, .int x1] : List Value).toArray below meth c H locs 0 0 Q (F0 m 71 ls []) := by
    intro n
    induction n with
    | zero => intro fl_line fl_lineSize x2 x3 x4 h; exact False.elim h
    | succ n ih =>
      intro fl_line fl_lineSize x2 x3 x4 h H locs ls hP hD hS hl
      refine lv_iload hx hb dX2_lineUp_71 (lv_at hl 3 rfl) ?_
      refine lv_iload_n hx hb dX2_lineUp_73 rfl (lv_at hl 2 rfl) ?_
      refine lv_icmp_ge (tgt := 131) hx hb dX2_lineUp_74 (by decide) (fun c_11 => ?_) (fun c_11 => ?_)
      · have h := h.1 c_11
        rw [hQ]
        exact W.vret hx hb hr (fun t ht hW => ⟨⟨(fl_line, fl_lineSize), rfl, h, by rw [ht]; exact hP, va_K.moved hW.alike hK, hD⟩, hS.F ht⟩) hS.2.2 dX2_lineUp_131
      · have h := h.2 c_11
        refine lv_iconst (v := 0) hx hb dX2_lineUp_77 (by decide) ?_
        refine lv_istore (lv' := [(5, .int 0), (0, .ref fl_h), (2, .int x2), (3, .int x3), (4, .int x4)]) hx hb dX2_lineUp_78 hl (by decide) rfl (fun ls hl => ?_)
        obtain ⟨n, h⟩ := h
        exact b80 _ ih n fl_line fl_lineSize x2 x3 x4 0 h _ _ _ hP hD hS (lv_sub hl [1, 2, 3, 4, 0] rfl)
  have b44 : ∀ (fl_lineSize : Int32) (x2 : Int32) (t0 : Int32), wp_X2_lineUp_b44 K fl_lists fl_listSize fl_line cr_book fl_lineSize x2 t0 → ∀ (H : Heap) (locs : List Loc) (ls : Array Slot), va_P D vwCl ((wo_X2 cI cZ fl_h fl_ad ru_h cr_h ca_h fl_lists fl_listSize fl_job fl_jobLast fl_refusals fl_notes fl_laws fl_line fl_lineSize fl_clock fl_callsDone fl_sentInAll) ++ ((wo_X4 cI cZ ru_h ru_ad ru_from ru_voted ru_undone ru_says ru_texts ru_lines) ++ ((wo_X1 cI cZ cr_h cr_ad cr_book cr_signed cr_size cr_latestPaper cr_paperBefore cr_paperLast cr_paperTold cr_papers cr_minutesHere cr_heres) ++ (wo_X0 cI cZ ca_h ca_ad ca_skill ca_days ca_wanted ca_named ca_minute ca_day ca_refusers ca_order ca_size)))) H → va_D A ((wo_X2 cI cZ fl_h fl_ad ru_h cr_h ca_h fl_lists fl_listSize fl_job fl_jobLast fl_refusals fl_notes fl_laws fl_line fl_lineSize fl_clock fl_callsDone fl_sentInAll) ++ ((wo_X4 cI cZ ru_h ru_ad ru_from ru_voted ru_undone ru_says ru_texts ru_lines) ++ ((wo_X1 cI cZ cr_h cr_ad cr_book cr_signed cr_size cr_latestPaper cr_paperBefore cr_paperLast cr_paperTold cr_papers cr_minutesHere cr_heres) ++ (wo_X0 cI cZ ca_h ca_ad ca_skill ca_days ca_wanted ca_named ca_minute ca_day ca_refusers ca_order ca_size)))) → va_S A s.heap H locs → lv_has ls 7 [(0, .ref fl_h), (2, .int x2)] → W p l e (headSpec wsX2_lineUp rm_X2_lineUp).room s m ([.ref fl_h, .int x1] : List Value).toArray below meth c H locs 0 0 Q (F0 m 44 ls [.int t0]) := by
    intro fl_lineSize x2 t0 h H locs ls hP hD hS hl
    refine lv_istore_n (lv' := [(3, .int t0), (0, .ref fl_h), (2, .int x2)]) hx hb dX2_lineUp_44 rfl hl (by decide) rfl (fun ls hl => ?_)
    refine lv_iload_n hx hb dX2_lineUp_45 rfl (lv_at hl 2 rfl) ?_
    refine lv_iconst (v := (-1)) hx hb dX2_lineUp_46 (by decide) ?_
    refine lv_icmp_eq (tgt := 68) hx hb dX2_lineUp_47 (by decide) (fun c_12 => ?_) (fun c_12 => ?_)
    · have h := h.1 c_12
      refine lv_iconst (v := 0) hx hb dX2_lineUp_68 (by decide) ?_
      refine lv_istore (lv' := [(4, .int 0), (3, .int t0), (0, .ref fl_h), (2, .int x2)]) hx hb dX2_lineUp_69 hl (by decide) rfl (fun ls hl => ?_)
      obtain ⟨n, h⟩ := h
      exact b71  n fl_line fl_lineSize x2 t0 0 h _ _ _ hP hD hS (lv_sub hl [2, 3, 1, 0] rfl)
    · have h := h.2 c_12
      refine lv_aload_n hx hb dX2_lineUp_50 rfl (lv_at hl 1 rfl) ?_
      refine va_get (D := D) (ci := 2) (v := .ref cr_h) (C := RX2) (T := TX2) (N := 15) hx hb hts mi_X2_lineUp_X2 hown hK hP 0 rfl rfl 1 (by decide) (hts (.fieldLink RX2 40 "HiringHall$Floor" "crew" "LHiringHall$Crew;") (List.mem_of_getElem? (i := 4) rfl)) (fun _ h9 => h9) rfl dX2_lineUp_51 ?_
      refine va_getN (D := D) (ci := 1) (v := .ref (cr_ad 0)) (C := RX1) (T := TX1) (N := 10) hx hb hts mi_X2_lineUp_X1 hown hK hP 14 rfl rfl 0 (by decide) (va_Nw.use rfl (hN.1 (RX2, 101, RX1, "book", "[I", RX7) (List.mem_of_getElem? (i := 7) rfl))) (fun _ h9 => h9) rfl dX2_lineUp_54 ?_
      refine lv_iload_n hx hb dX2_lineUp_57 rfl (lv_at hl 2 rfl) ?_
      obtain ⟨hi_13, h⟩ := h
      refine va_iald hx hb hK hP 15 0 rfl rfl hi_13 dX2_lineUp_58 ?_
      refine lv_iload_n hx hb dX2_lineUp_59 rfl (lv_at hl 0 rfl) ?_
      refine lv_icmp_ge (tgt := 68) hx hb dX2_lineUp_60 (by decide) (fun c_14 => ?_) (fun c_14 => ?_)
      · have h := h.1 c_14
        refine lv_iconst (v := 0) hx hb dX2_lineUp_68 (by decide) ?_
        refine lv_istore (lv' := [(4, .int 0), (3, .int t0), (0, .ref fl_h), (2, .int x2)]) hx hb dX2_lineUp_69 hl (by decide) rfl (fun ls hl => ?_)
        obtain ⟨n, h⟩ := h
        exact b71  n fl_line fl_lineSize x2 t0 0 h _ _ _ hP hD hS (lv_sub hl [2, 3, 1, 0] rfl)
      · have h := h.2 c_14
        refine lv_aload_n hx hb dX2_lineUp_63 rfl (lv_at hl 1 rfl) ?_
        refine lv_iload_n hx hb dX2_lineUp_64 rfl (lv_at hl 2 rfl) ?_
        have hP : va_P D vwCl ((fun v => v) ((wo_X2 cI cZ fl_h fl_ad ru_h cr_h ca_h fl_lists fl_listSize fl_job fl_jobLast fl_refusals fl_notes fl_laws fl_line fl_lineSize fl_clock fl_callsDone fl_sentInAll) ++ ((wo_X4 cI cZ ru_h ru_ad ru_from ru_voted ru_undone ru_says ru_texts ru_lines) ++ ((wo_X1 cI cZ cr_h cr_ad cr_book cr_signed cr_size cr_latestPaper cr_paperBefore cr_paperLast cr_paperTold cr_papers cr_minutesHere cr_heres) ++ (wo_X0 cI cZ ca_h ca_ad ca_skill ca_days ca_wanted ca_named ca_minute ca_day ca_refusers ca_order ca_size))))) H := hP
        have hD : va_D A ((fun v => v) ((wo_X2 cI cZ fl_h fl_ad ru_h cr_h ca_h fl_lists fl_listSize fl_job fl_jobLast fl_refusals fl_notes fl_laws fl_line fl_lineSize fl_clock fl_callsDone fl_sentInAll) ++ ((wo_X4 cI cZ ru_h ru_ad ru_from ru_voted ru_undone ru_says ru_texts ru_lines) ++ ((wo_X1 cI cZ cr_h cr_ad cr_book cr_signed cr_size cr_latestPaper cr_paperBefore cr_paperLast cr_paperTold cr_papers cr_minutesHere cr_heres) ++ (wo_X0 cI cZ ca_h ca_ad ca_skill ca_days ca_wanted ca_named ca_minute ca_day ca_refusers ca_order ca_size))))) := hD
        refine mk_cv (f := fun v => v) mk_fr_id (va_runV (As := [.int x2]) (rest := []) ⟨hx, hb, hml, hown, hts⟩ (c_X2_joinLine l D cI cZ E fl_h fl_ad ru_h ru_ad cr_h cr_ad ca_h ca_ad fl_lists fl_listSize fl_job fl_jobLast fl_refusals fl_notes fl_laws fl_line fl_lineSize fl_clock fl_callsDone fl_sentInAll ru_from ru_voted ru_undone ru_says ru_texts ru_lines cr_book cr_signed cr_size cr_latestPaper cr_paperBefore cr_paperLast cr_paperTold cr_papers cr_minutesHere cr_heres ca_skill ca_days ca_wanted ca_named ca_minute ca_day ca_refusers ca_order ca_size x2 _ h H.size) (cwV 1 hts gX2_lineUp_X2_joinLine rfl rfl rfl (by decide +kernel) ⟨Nat.le_of_ble_eq_true rfl, Nat.le_of_ble_eq_true rfl⟩) (mk_preV (ci := 2) mk_fr_id hK hN hE hS hA hP hD rfl rfl) rfl rfl hl.1 rfl (lv_room (Nat.le_of_ble_eq_true rfl)) dX2_lineUp_65 ⟨Nat.le_of_ble_eq_true rfl, Nat.le_of_ble_eq_true rfl⟩) hP hD hS hA (fun u H locs h hP hD hS => ?_)
        obtain ⟨a15, y16⟩ := u
        try dsimp only at h
        have hP : va_P D vwCl ((wo_X2 cI cZ fl_h fl_ad ru_h cr_h ca_h fl_lists fl_listSize fl_job fl_jobLast fl_refusals fl_notes fl_laws a15 y16 fl_clock fl_callsDone fl_sentInAll) ++ ((wo_X4 cI cZ ru_h ru_ad ru_from ru_voted ru_undone ru_says ru_texts ru_lines) ++ ((wo_X1 cI cZ cr_h cr_ad cr_book cr_signed cr_size cr_latestPaper cr_paperBefore cr_paperLast cr_paperTold cr_papers cr_minutesHere cr_heres) ++ (wo_X0 cI cZ ca_h ca_ad ca_skill ca_days ca_wanted ca_named ca_minute ca_day ca_refusers ca_order ca_size)))) H := hP
        have hD : va_D A ((wo_X2 cI cZ fl_h fl_ad ru_h cr_h ca_h fl_lists fl_listSize fl_job fl_jobLast fl_refusals fl_notes fl_laws a15 y16 fl_clock fl_callsDone fl_sentInAll) ++ ((wo_X4 cI cZ ru_h ru_ad ru_from ru_voted ru_undone ru_says ru_texts ru_lines) ++ ((wo_X1 cI cZ cr_h cr_ad cr_book cr_signed cr_size cr_latestPaper cr_paperBefore cr_paperLast cr_paperTold cr_papers cr_minutesHere cr_heres) ++ (wo_X0 cI cZ ca_h ca_ad ca_skill ca_days ca_wanted ca_named ca_minute ca_day ca_refusers ca_order ca_size)))) := hD
        refine lv_iconst (v := 0) hx hb dX2_lineUp_68 (by decide) ?_
        refine lv_istore (lv' := [(4, .int 0), (3, .int t0), (0, .ref fl_h), (2, .int x2)]) hx hb dX2_lineUp_69 hl (by decide) rfl (fun ls hl => ?_)
        obtain ⟨n, h⟩ := h
        exact b71  n a15 y16 x2 t0 0 h _ _ _ hP hD hS (lv_sub hl [2, 3, 1, 0] rfl)
  have b28 : ∀ (fl_lineSize : Int32) (t0 : Int32), wp_X2_lineUp_b28 K fl_lists fl_listSize fl_laws fl_line cr_book fl_lineSize t0 → ∀ (H : Heap) (locs : List Loc) (ls : Array Slot), va_P D vwCl ((wo_X2 cI cZ fl_h fl_ad ru_h cr_h ca_h fl_lists fl_listSize fl_job fl_jobLast fl_refusals fl_notes fl_laws fl_line fl_lineSize fl_clock fl_callsDone fl_sentInAll) ++ ((wo_X4 cI cZ ru_h ru_ad ru_from ru_voted ru_undone ru_says ru_texts ru_lines) ++ ((wo_X1 cI cZ cr_h cr_ad cr_book cr_signed cr_size cr_latestPaper cr_paperBefore cr_paperLast cr_paperTold cr_papers cr_minutesHere cr_heres) ++ (wo_X0 cI cZ ca_h ca_ad ca_skill ca_days ca_wanted ca_named ca_minute ca_day ca_refusers ca_order ca_size)))) H → va_D A ((wo_X2 cI cZ fl_h fl_ad ru_h cr_h ca_h fl_lists fl_listSize fl_job fl_jobLast fl_refusals fl_notes fl_laws fl_line fl_lineSize fl_clock fl_callsDone fl_sentInAll) ++ ((wo_X4 cI cZ ru_h ru_ad ru_from ru_voted ru_undone ru_says ru_texts ru_lines) ++ ((wo_X1 cI cZ cr_h cr_ad cr_book cr_signed cr_size cr_latestPaper cr_paperBefore cr_paperLast cr_paperTold cr_papers cr_minutesHere cr_heres) ++ (wo_X0 cI cZ ca_h ca_ad ca_skill ca_days ca_wanted ca_named ca_minute ca_day ca_refusers ca_order ca_size)))) → va_S A s.heap H locs → lv_has ls 7 [(0, .ref fl_h)] → W p l e (headSpec wsX2_lineUp rm_X2_lineUp).room s m ([.ref fl_h, .int x1] : List Value).toArray below meth c H locs 0 0 Q (F0 m 28 ls [.int t0]) := by
    intro fl_lineSize t0 h H locs ls hP hD hS hl
    refine lv_istore_n (lv' := [(2, .int t0), (0, .ref fl_h)]) hx hb dX2_lineUp_28 rfl hl (by decide) rfl (fun ls hl => ?_)
    refine lv_aload_n hx hb dX2_lineUp_29 rfl (lv_at hl 1 rfl) ?_
    refine va_get (D := D) (ci := 2) (v := .ref (fl_ad 9)) (C := RX2) (T := TX2) (N := 15) hx hb hts mi_X2_lineUp_X2 hown hK hP 0 rfl rfl 9 (by decide) (hts (.fieldLink RX2 30 "HiringHall$Floor" "laws" "[I") (List.mem_of_getElem? (i := 2) rfl)) (fun _ h9 => h9) rfl dX2_lineUp_30 ?_
    refine lv_iconst (v := 3) hx hb dX2_lineUp_33 (by decide) ?_
    obtain ⟨hi_17, h⟩ := h
    refine va_iald hx hb hK hP 7 0 rfl rfl hi_17 dX2_lineUp_34 ?_
    refine lv_iconst (v := 1) hx hb dX2_lineUp_35 (by decide) ?_
    refine lv_icmp_ne (tgt := 43) hx hb dX2_lineUp_36 (by decide) (fun c_18 => ?_) (fun c_18 => ?_)
    · have h := h.1 c_18
      refine lv_iconst (v := 2) hx hb dX2_lineUp_43 (by decide) ?_
      exact b44  fl_lineSize t0 2 h _ _ _ hP hD hS (lv_sub hl [1, 0] rfl)
    · have h := h.2 c_18
      refine lv_iconst (v := 3) hx hb dX2_lineUp_39 (by decide) ?_
      refine lv_goto (tgt := 44) hx hb dX2_lineUp_40 (by decide) ?_
      exact b44  fl_lineSize t0 3 h _ _ _ hP hD hS (lv_sub hl [1, 0] rfl)
  refine lv_aload_n hx hb dX2_lineUp_0 rfl (lv_at hl 0 rfl) ?_
  refine lv_iconst (v := 0) hx hb dX2_lineUp_1 (by decide) ?_
  refine va_put (D := D) (ci := 2) (v := .int 0) (ty := .int) (C := RX2) (T := TX2) (N := 15) hx hb hts mi_X2_lineUp_X2 tyX2 tyX2_ok nmX2 hown hK hP hD hS 0 rfl rfl 11 (by decide) (hts (.fieldLink RX2 116 "HiringHall$Floor" "lineSize" "I") (List.mem_of_getElem? (i := 1) rfl)) (fun _ h9 => h9) rfl (by decide +kernel) rfl rfl (Nat.le_of_ble_eq_true rfl) dX2_lineUp_2 (fun H locs hP hD hS => ?_)
  have hP : va_P D vwCl ((wo_X2 cI cZ fl_h fl_ad ru_h cr_h ca_h fl_lists fl_listSize fl_job fl_jobLast fl_refusals fl_notes fl_laws fl_line 0 fl_clock fl_callsDone fl_sentInAll) ++ ((wo_X4 cI cZ ru_h ru_ad ru_from ru_voted ru_undone ru_says ru_texts ru_lines) ++ ((wo_X1 cI cZ cr_h cr_ad cr_book cr_signed cr_size cr_latestPaper cr_paperBefore cr_paperLast cr_paperTold cr_papers cr_minutesHere cr_heres) ++ (wo_X0 cI cZ ca_h ca_ad ca_skill ca_days ca_wanted ca_named ca_minute ca_day ca_refusers ca_order ca_size)))) H := hP
  have hD : va_D A ((wo_X2 cI cZ fl_h fl_ad ru_h cr_h ca_h fl_lists fl_listSize fl_job fl_jobLast fl_refusals fl_notes fl_laws fl_line 0 fl_clock fl_callsDone fl_sentInAll) ++ ((wo_X4 cI cZ ru_h ru_ad ru_from ru_voted ru_undone ru_says ru_texts ru_lines) ++ ((wo_X1 cI cZ cr_h cr_ad cr_book cr_signed cr_size cr_latestPaper cr_paperBefore cr_paperLast cr_paperTold cr_papers cr_minutesHere cr_heres) ++ (wo_X0 cI cZ ca_h ca_ad ca_skill ca_days ca_wanted ca_named ca_minute ca_day ca_refusers ca_order ca_size)))) := hD
  refine lv_aload_n hx hb dX2_lineUp_5 rfl (lv_at hl 0 rfl) ?_
  refine va_get (D := D) (ci := 2) (v := .ref (fl_ad 9)) (C := RX2) (T := TX2) (N := 15) hx hb hts mi_X2_lineUp_X2 hown hK hP 0 rfl rfl 9 (by decide) (hts (.fieldLink RX2 30 "HiringHall$Floor" "laws" "[I") (List.mem_of_getElem? (i := 2) rfl)) (fun _ h9 => h9) rfl dX2_lineUp_6 ?_
  refine lv_iconst (v := 4) hx hb dX2_lineUp_9 (by decide) ?_
  obtain ⟨hi_19, h⟩ := h
  refine va_iald hx hb hK hP 7 0 rfl rfl hi_19 dX2_lineUp_10 ?_
  refine lv_iconst (v := 1) hx hb dX2_lineUp_11 (by decide) ?_
  refine lv_icmp_ne (tgt := 27) hx hb dX2_lineUp_12 (by decide) (fun c_20 => ?_) (fun c_20 => ?_)
  · have h := h.1 c_20
    refine lv_iconst (v := (-1)) hx hb dX2_lineUp_27 (by decide) ?_
    exact b28  0 (-1) h _ _ _ hP hD hS (lv_sub hl [0] rfl)
  · have h := h.2 c_20
    refine lv_aload_n hx hb dX2_lineUp_15 rfl (lv_at hl 0 rfl) ?_
    refine va_get (D := D) (ci := 2) (v := .ref ca_h) (C := RX2) (T := TX2) (N := 15) hx hb hts mi_X2_lineUp_X2 hown hK hP 0 rfl rfl 2 (by decide) (hts (.fieldLink RX2 44 "HiringHall$Floor" "calls" "LHiringHall$Calls;") (List.mem_of_getElem? (i := 3) rfl)) (fun _ h9 => h9) rfl dX2_lineUp_16 ?_
    refine va_getN (D := D) (ci := 0) (v := .ref (ca_ad 3)) (C := RX0) (T := TX0) (N := 9) hx hb hts mi_X2_lineUp_X0 hown hK hP 22 rfl rfl 3 (by decide) (va_Nw.use rfl (hN.1 (RX2, 122, RX0, "named", "[I", RX7) (List.mem_of_getElem? (i := 18) rfl))) (fun _ h9 => h9) rfl dX2_lineUp_19 ?_
    refine lv_iload_n hx hb dX2_lineUp_22 rfl (lv_at hl 1 rfl) ?_
    obtain ⟨hi_21, h⟩ := h
    refine va_iald hx hb hK hP 26 0 rfl rfl hi_21 dX2_lineUp_23 ?_
    refine lv_goto (tgt := 28) hx hb dX2_lineUp_24 (by decide) ?_
    exact b28  0 (ca_named (x1.toNatClampNeg)) h _ _ _ hP hD hS (lv_sub hl [0] rfl)
def rm_X2_outcomeFor : Room := { frames := 1, cells := 0, slots := 0, locals := 25 }
theorem mi_X2_outcomeFor_X0 : ∀ w ∈ wsX00, w ∈ wsX2_outcomeFor := fun _ h => List.mem_cons_of_mem _ (List.mem_append_left _ (List.mem_append_right _ h))
theorem mi_X2_outcomeFor_X2 : ∀ w ∈ wsX20, w ∈ wsX2_outcomeFor := fun _ h => List.mem_cons_of_mem _ (List.mem_append_left _ (List.mem_append_left _ (List.mem_append_right _ h)))
set_option maxHeartbeats 4000000 in
set_option maxRecDepth 100000 in
theorem c_X2_outcomeFor (l : Launch) (D : va_G) (cI cZ : ClassId) (E : (Nat → Nat) × (Nat → Nat)) (fl_h : Nat) (fl_ad : Nat → Nat) (ru_h : Nat) (ru_ad : Nat → Nat) (cr_h : Nat) (cr_ad : Nat → Nat) (ca_h : Nat) (ca_ad : Nat → Nat) (fl_lists : (Nat → Int32)) (fl_listSize : (Nat → Int32)) (fl_job : (Nat → Int32)) (fl_jobLast : (Nat → Int32)) (fl_refusals : (Nat → Int32)) (fl_notes : (Nat → Int32)) (fl_laws : (Nat → Int32)) (fl_line : (Nat → Int32)) (fl_lineSize : Int32) (fl_clock : Int32) (fl_callsDone : Int32) (fl_sentInAll : Int32) (ru_from : (Nat → Int32)) (ru_voted : (Nat → Int32)) (ru_undone : (Nat → Int32)) (ru_says : (Nat → Int32)) (ru_texts : Int32) (ru_lines : Int32) (cr_book : (Nat → Int32)) (cr_signed : (Nat → Int32)) (cr_size : Int32) (cr_latestPaper : (Nat → Int32)) (cr_paperBefore : (Nat → Int32)) (cr_paperLast : (Nat → Int32)) (cr_paperTold : (Nat → Int32)) (cr_papers : Int32) (cr_minutesHere : (Nat → Int32)) (cr_heres : Int32) (ca_skill : (Nat → Int32)) (ca_days : (Nat → Int32)) (ca_wanted : (Nat → Int32)) (ca_named : (Nat → Int32)) (ca_minute : (Nat → Int32)) (ca_day : (Nat → Int32)) (ca_refusers : (Nat → Int32)) (ca_order : (Nat → Int32)) (ca_size : Int32) (x1 : Int32) (x2 : Int32) (x3 : Int32) (K : (Int32 → Prop)) (h : wp_X2_outcomeFor fl_job fl_clock cr_latestPaper cr_paperBefore cr_paperLast cr_paperTold cr_papers cr_minutesHere ca_skill ca_refusers x1 x2 x3 K) : mk_Ci l D cI cZ E yX2_outcomeFor wsX2_outcomeFor rm_X2_outcomeFor ([.ref fl_h, .int x1, .int x2, .int x3] : List Value) ((wo_X2 cI cZ fl_h fl_ad ru_h cr_h ca_h fl_lists fl_listSize fl_job fl_jobLast fl_refusals fl_notes fl_laws fl_line fl_lineSize fl_clock fl_callsDone fl_sentInAll) ++ ((wo_X4 cI cZ ru_h ru_ad ru_from ru_voted ru_undone ru_says ru_texts ru_lines) ++ ((wo_X1 cI cZ cr_h cr_ad cr_book cr_signed cr_size cr_latestPaper cr_paperBefore cr_paperLast cr_paperTold cr_papers cr_minutesHere cr_heres) ++ (wo_X0 cI cZ ca_h ca_ad ca_skill ca_days ca_wanted ca_named ca_minute ca_day ca_refusers ca_order ca_size)))) (fun (u : Unit) => ((wo_X2 cI cZ fl_h fl_ad ru_h cr_h ca_h fl_lists fl_listSize fl_job fl_jobLast fl_refusals fl_notes fl_laws fl_line fl_lineSize fl_clock fl_callsDone fl_sentInAll) ++ ((wo_X4 cI cZ ru_h ru_ad ru_from ru_voted ru_undone ru_says ru_texts ru_lines) ++ ((wo_X1 cI cZ cr_h cr_ad cr_book cr_signed cr_size cr_latestPaper cr_paperBefore cr_paperLast cr_paperTold cr_papers cr_minutesHere cr_heres) ++ (wo_X0 cI cZ ca_h ca_ad ca_skill ca_days ca_wanted ca_named ca_minute ca_day ca_refusers ca_order ca_size))))) (fun (r : Int32) (u : Unit) => K r) := by
  intro sz
  refine Met.ofW (cc := cX2_outcomeFor) (maxL := 4) (ret := (some .int)) (by decide) rfl ?_
  intro p e s m args below meth c s₁ B hml hv
  obtain ⟨rfl, hsz, hP, hK, hD0, hN, hE⟩ := hv
  have hx := B.exec
  have hb := B.bytes
  have hr := B.returns
  have hts := atoms_spec (ws := wsX2_outcomeFor) B.pre
  have hown : s.vm.findClass RX2 = some m.cls := findClass_of_methodNamed B.named
  have hlocks := B.notSynchronized
  subst hsz
  have hD := hD0.self (sz := s.heap.size)
  generalize hAe : va_A ((wo_X2 cI cZ fl_h fl_ad ru_h cr_h ca_h fl_lists fl_listSize fl_job fl_jobLast fl_refusals fl_notes fl_laws fl_line fl_lineSize fl_clock fl_callsDone fl_sentInAll) ++ ((wo_X4 cI cZ ru_h ru_ad ru_from ru_voted ru_undone ru_says ru_texts ru_lines) ++ ((wo_X1 cI cZ cr_h cr_ad cr_book cr_signed cr_size cr_latestPaper cr_paperBefore cr_paperLast cr_paperTold cr_papers cr_minutesHere cr_heres) ++ (wo_X0 cI cZ ca_h ca_ad ca_skill ca_days ca_wanted ca_named ca_minute ca_day ca_refusers ca_order ca_size)))) s.heap.size = A at hD hE ⊢
  have hA : ∀ q : Nat, s.heap.size ≤ q → A q := fun q h => by rw [← hAe]; exact Or.inr h
  have hl := lv_entry ([.ref fl_h, .int x1, .int x2, .int x3] : List Value) (n := 4) (Nat.le_of_ble_eq_true rfl)
  rw [lg_entry_eq]
  generalize (lg_sl ([.ref fl_h, .int x1, .int x2, .int x3] : List Value) ++ List.replicate (4 - (lg_sl ([.ref fl_h, .int x1, .int x2, .int x3] : List Value)).length) Slot.unset).toArray = ls at hl ⊢
  have hl : lv_has ls 4 [(0, .ref fl_h), (1, .int x1), (2, .int x2), (3, .int x3)] := hl
  refine mk_absQ (P := fun Q => W p l e _ s m _ below meth c s.heap [] 0 0 Q _) (fun Q hQ => ?_)
  refine mk_absH (P := fun H => W p l e _ s m _ below meth c H [] 0 0 Q _) (fun H hH => ?_)
  have hP : va_P D vwCl ((wo_X2 cI cZ fl_h fl_ad ru_h cr_h ca_h fl_lists fl_listSize fl_job fl_jobLast fl_refusals fl_notes fl_laws fl_line fl_lineSize fl_clock fl_callsDone fl_sentInAll) ++ ((wo_X4 cI cZ ru_h ru_ad ru_from ru_voted ru_undone ru_says ru_texts ru_lines) ++ ((wo_X1 cI cZ cr_h cr_ad cr_book cr_signed cr_size cr_latestPaper cr_paperBefore cr_paperLast cr_paperTold cr_papers cr_minutesHere cr_heres) ++ (wo_X0 cI cZ ca_h ca_ad ca_skill ca_days ca_wanted ca_named ca_minute ca_day ca_refusers ca_order ca_size)))) H := by rw [hH]; exact hP
  have hS : va_S A s.heap H [] := by rw [hH]; exact va_S.rf
  refine lv_aload_n hx hb dX2_outcomeFor_0 rfl (lv_at hl 0 rfl) ?_
  refine va_get (D := D) (ci := 2) (v := .ref (fl_ad 5)) (C := RX2) (T := TX2) (N := 15) hx hb hts mi_X2_outcomeFor_X2 hown hK hP 0 rfl rfl 5 (by decide) (hts (.fieldLink RX2 18 "HiringHall$Floor" "job" "[I") (List.mem_of_getElem? (i := 1) rfl)) (fun _ h9 => h9) rfl dX2_outcomeFor_1 ?_
  refine lv_iload_n hx hb dX2_outcomeFor_4 rfl (lv_at hl 2 rfl) ?_
  obtain ⟨hi_1, h⟩ := h
  refine va_iald hx hb hK hP 3 0 rfl rfl hi_1 dX2_outcomeFor_5 ?_
  refine lv_iconst (v := (-1)) hx hb dX2_outcomeFor_6 (by decide) ?_
  refine lv_icmp_eq (tgt := 12) hx hb dX2_outcomeFor_7 (by decide) (fun c_2 => ?_) (fun c_2 => ?_)
  · have h := h.1 c_2
    refine lv_aload_n hx hb dX2_outcomeFor_12 rfl (lv_at hl 0 rfl) ?_
    refine va_get (D := D) (ci := 2) (v := .ref cr_h) (C := RX2) (T := TX2) (N := 15) hx hb hts mi_X2_outcomeFor_X2 hown hK hP 0 rfl rfl 1 (by decide) (hts (.fieldLink RX2 40 "HiringHall$Floor" "crew" "LHiringHall$Crew;") (List.mem_of_getElem? (i := 2) rfl)) (fun _ h9 => h9) rfl dX2_outcomeFor_13 ?_
    refine lv_iload_n hx hb dX2_outcomeFor_16 rfl (lv_at hl 2 rfl) ?_
    refine lv_aload_n hx hb dX2_outcomeFor_17 rfl (lv_at hl 0 rfl) ?_
    refine va_get (D := D) (ci := 2) (v := .ref ca_h) (C := RX2) (T := TX2) (N := 15) hx hb hts mi_X2_outcomeFor_X2 hown hK hP 0 rfl rfl 2 (by decide) (hts (.fieldLink RX2 44 "HiringHall$Floor" "calls" "LHiringHall$Calls;") (List.mem_of_getElem? (i := 3) rfl)) (fun _ h9 => h9) rfl dX2_outcomeFor_18 ?_
    refine va_getN (D := D) (ci := 0) (v := .ref (ca_ad 0)) (C := RX0) (T := TX0) (N := 9) hx hb hts mi_X2_outcomeFor_X0 hown hK hP 22 rfl rfl 0 (by decide) (va_Nw.use rfl (hN.1 (RX2, 138, RX0, "skill", "[I", RX7) (List.mem_of_getElem? (i := 15) rfl))) (fun _ h9 => h9) rfl dX2_outcomeFor_21 ?_
    refine lv_iload_n hx hb dX2_outcomeFor_24 rfl (lv_at hl 1 rfl) ?_
    obtain ⟨hi_3, h⟩ := h
    refine va_iald hx hb hK hP 23 0 rfl rfl hi_3 dX2_outcomeFor_25 ?_
    refine lv_iload_n hx hb dX2_outcomeFor_26 rfl (lv_at hl 3 rfl) ?_
    have hP : va_P D vwCl ((fun v => ((wo_X2 cI cZ fl_h fl_ad ru_h cr_h ca_h fl_lists fl_listSize fl_job fl_jobLast fl_refusals fl_notes fl_laws fl_line fl_lineSize fl_clock fl_callsDone fl_sentInAll) ++ (wo_X4 cI cZ ru_h ru_ad ru_from ru_voted ru_undone ru_says ru_texts ru_lines)) ++ (v ++ (wo_X0 cI cZ ca_h ca_ad ca_skill ca_days ca_wanted ca_named ca_minute ca_day ca_refusers ca_order ca_size))) (wo_X1 cI cZ cr_h cr_ad cr_book cr_signed cr_size cr_latestPaper cr_paperBefore cr_paperLast cr_paperTold cr_papers cr_minutesHere cr_heres)) H := hP
    have hD : va_D A ((fun v => ((wo_X2 cI cZ fl_h fl_ad ru_h cr_h ca_h fl_lists fl_listSize fl_job fl_jobLast fl_refusals fl_notes fl_laws fl_line fl_lineSize fl_clock fl_callsDone fl_sentInAll) ++ (wo_X4 cI cZ ru_h ru_ad ru_from ru_voted ru_undone ru_says ru_texts ru_lines)) ++ (v ++ (wo_X0 cI cZ ca_h ca_ad ca_skill ca_days ca_wanted ca_named ca_minute ca_day ca_refusers ca_order ca_size))) (wo_X1 cI cZ cr_h cr_ad cr_book cr_signed cr_size cr_latestPaper cr_paperBefore cr_paperLast cr_paperTold cr_papers cr_minutesHere cr_heres)) := hD
    refine mk_ci (f := fun v => ((wo_X2 cI cZ fl_h fl_ad ru_h cr_h ca_h fl_lists fl_listSize fl_job fl_jobLast fl_refusals fl_notes fl_laws fl_line fl_lineSize fl_clock fl_callsDone fl_sentInAll) ++ (wo_X4 cI cZ ru_h ru_ad ru_from ru_voted ru_undone ru_says ru_texts ru_lines)) ++ (v ++ (wo_X0 cI cZ ca_h ca_ad ca_skill ca_days ca_wanted ca_named ca_minute ca_day ca_refusers ca_order ca_size))) (mk_fr_mid _ _) (va_runVN (As := [.int x2, .int (ca_skill (x1.toNatClampNeg)), .int x3]) (rest := []) ⟨hx, hb, hml, hown, hts⟩ (c_X1_hasPaper l D cI cZ E cr_h cr_ad cr_book cr_signed cr_size cr_latestPaper cr_paperBefore cr_paperLast cr_paperTold cr_papers cr_minutesHere cr_heres x2 (ca_skill (x1.toNatClampNeg)) x3 _ h H.size) ⟨va_cnB 3 hts gX2_outcomeFor_X1_hasPaper_n141 rfl rfl rfl (hN.2 (RX2, 141, yX1_hasPaper, RX7) (List.mem_of_getElem? (i := 22) rfl)) (hts (.initialized RX1) (List.mem_of_getElem? (i := 6) rfl)) (by decide +kernel) ⟨Nat.le_of_ble_eq_true rfl, Nat.le_of_ble_eq_true rfl⟩, hts (.instanceMethod yX1_hasPaper) (List.mem_of_getElem? (i := 5) rfl), hts (.selects RX1 yX1_hasPaper yX1_hasPaper) (List.mem_of_getElem? (i := 7) rfl)⟩ (mk_preV (ci := 1) (mk_fr_mid _ _) hK hN hE hS hA hP hD rfl rfl) rfl rfl hl.1 rfl (lv_room (Nat.le_of_ble_eq_true rfl)) dX2_outcomeFor_27 ⟨Nat.le_of_ble_eq_true rfl, Nat.le_of_ble_eq_true rfl⟩) hP hD hS hA (fun r4 u H locs h hP hD hS => ?_)
    try dsimp only at h
    have hP : va_P D vwCl ((wo_X2 cI cZ fl_h fl_ad ru_h cr_h ca_h fl_lists fl_listSize fl_job fl_jobLast fl_refusals fl_notes fl_laws fl_line fl_lineSize fl_clock fl_callsDone fl_sentInAll) ++ ((wo_X4 cI cZ ru_h ru_ad ru_from ru_voted ru_undone ru_says ru_texts ru_lines) ++ ((wo_X1 cI cZ cr_h cr_ad cr_book cr_signed cr_size cr_latestPaper cr_paperBefore cr_paperLast cr_paperTold cr_papers cr_minutesHere cr_heres) ++ (wo_X0 cI cZ ca_h ca_ad ca_skill ca_days ca_wanted ca_named ca_minute ca_day ca_refusers ca_order ca_size)))) H := hP
    have hD : va_D A ((wo_X2 cI cZ fl_h fl_ad ru_h cr_h ca_h fl_lists fl_listSize fl_job fl_jobLast fl_refusals fl_notes fl_laws fl_line fl_lineSize fl_clock fl_callsDone fl_sentInAll) ++ ((wo_X4 cI cZ ru_h ru_ad ru_from ru_voted ru_undone ru_says ru_texts ru_lines) ++ ((wo_X1 cI cZ cr_h cr_ad cr_book cr_signed cr_size cr_latestPaper cr_paperBefore cr_paperLast cr_paperTold cr_papers cr_minutesHere cr_heres) ++ (wo_X0 cI cZ ca_h ca_ad ca_skill ca_days ca_wanted ca_named ca_minute ca_day ca_refusers ca_order ca_size)))) := hD
    refine lv_if_ne (tgt := 35) hx hb dX2_outcomeFor_30 (by decide) (fun c_5 => ?_) (fun c_5 => ?_)
    · have h := h.1 c_5
      refine lv_aload_n hx hb dX2_outcomeFor_35 rfl (lv_at hl 0 rfl) ?_
      refine va_get (D := D) (ci := 2) (v := .ref cr_h) (C := RX2) (T := TX2) (N := 15) hx hb hts mi_X2_outcomeFor_X2 hown hK hP 0 rfl rfl 1 (by decide) (hts (.fieldLink RX2 40 "HiringHall$Floor" "crew" "LHiringHall$Crew;") (List.mem_of_getElem? (i := 2) rfl)) (fun _ h9 => h9) rfl dX2_outcomeFor_36 ?_
      refine lv_iload_n hx hb dX2_outcomeFor_39 rfl (lv_at hl 2 rfl) ?_
      refine lv_iload_n hx hb dX2_outcomeFor_40 rfl (lv_at hl 3 rfl) ?_
      refine lv_aload_n hx hb dX2_outcomeFor_41 rfl (lv_at hl 0 rfl) ?_
      refine va_get (D := D) (ci := 2) (v := .int fl_clock) (C := RX2) (T := TX2) (N := 15) hx hb hts mi_X2_outcomeFor_X2 hown hK hP 0 rfl rfl 12 (by decide) (hts (.fieldLink RX2 110 "HiringHall$Floor" "clock" "I") (List.mem_of_getElem? (i := 4) rfl)) (fun _ h9 => h9) rfl dX2_outcomeFor_42 ?_
      have hP : va_P D vwCl ((fun v => ((wo_X2 cI cZ fl_h fl_ad ru_h cr_h ca_h fl_lists fl_listSize fl_job fl_jobLast fl_refusals fl_notes fl_laws fl_line fl_lineSize fl_clock fl_callsDone fl_sentInAll) ++ (wo_X4 cI cZ ru_h ru_ad ru_from ru_voted ru_undone ru_says ru_texts ru_lines)) ++ (v ++ (wo_X0 cI cZ ca_h ca_ad ca_skill ca_days ca_wanted ca_named ca_minute ca_day ca_refusers ca_order ca_size))) (wo_X1 cI cZ cr_h cr_ad cr_book cr_signed cr_size cr_latestPaper cr_paperBefore cr_paperLast cr_paperTold cr_papers cr_minutesHere cr_heres)) H := hP
      have hD : va_D A ((fun v => ((wo_X2 cI cZ fl_h fl_ad ru_h cr_h ca_h fl_lists fl_listSize fl_job fl_jobLast fl_refusals fl_notes fl_laws fl_line fl_lineSize fl_clock fl_callsDone fl_sentInAll) ++ (wo_X4 cI cZ ru_h ru_ad ru_from ru_voted ru_undone ru_says ru_texts ru_lines)) ++ (v ++ (wo_X0 cI cZ ca_h ca_ad ca_skill ca_days ca_wanted ca_named ca_minute ca_day ca_refusers ca_order ca_size))) (wo_X1 cI cZ cr_h cr_ad cr_book cr_signed cr_size cr_latestPaper cr_paperBefore cr_paperLast cr_paperTold cr_papers cr_minutesHere cr_heres)) := hD
      refine mk_ci (f := fun v => ((wo_X2 cI cZ fl_h fl_ad ru_h cr_h ca_h fl_lists fl_listSize fl_job fl_jobLast fl_refusals fl_notes fl_laws fl_line fl_lineSize fl_clock fl_callsDone fl_sentInAll) ++ (wo_X4 cI cZ ru_h ru_ad ru_from ru_voted ru_undone ru_says ru_texts ru_lines)) ++ (v ++ (wo_X0 cI cZ ca_h ca_ad ca_skill ca_days ca_wanted ca_named ca_minute ca_day ca_refusers ca_order ca_size))) (mk_fr_mid _ _) (va_runVN (As := [.int x2, .int x3, .int fl_clock]) (rest := []) ⟨hx, hb, hml, hown, hts⟩ (c_X1_isHere l D cI cZ E cr_h cr_ad cr_book cr_signed cr_size cr_latestPaper cr_paperBefore cr_paperLast cr_paperTold cr_papers cr_minutesHere cr_heres x2 x3 fl_clock _ h H.size) ⟨va_cnB 3 hts gX2_outcomeFor_X1_isHere_n145 rfl rfl rfl (hN.2 (RX2, 145, yX1_isHere, RX7) (List.mem_of_getElem? (i := 23) rfl)) (hts (.initialized RX1) (List.mem_of_getElem? (i := 6) rfl)) (by decide +kernel) ⟨Nat.le_of_ble_eq_true rfl, Nat.le_of_ble_eq_true rfl⟩, hts (.instanceMethod yX1_isHere) (List.mem_of_getElem? (i := 14) rfl), hts (.selects RX1 yX1_isHere yX1_isHere) (List.mem_of_getElem? (i := 15) rfl)⟩ (mk_preV (ci := 1) (mk_fr_mid _ _) hK hN hE hS hA hP hD rfl rfl) rfl rfl hl.1 rfl (lv_room (Nat.le_of_ble_eq_true rfl)) dX2_outcomeFor_45 ⟨Nat.le_of_ble_eq_true rfl, Nat.le_of_ble_eq_true rfl⟩) hP hD hS hA (fun r6 u H locs h hP hD hS => ?_)
      try dsimp only at h
      have hP : va_P D vwCl ((wo_X2 cI cZ fl_h fl_ad ru_h cr_h ca_h fl_lists fl_listSize fl_job fl_jobLast fl_refusals fl_notes fl_laws fl_line fl_lineSize fl_clock fl_callsDone fl_sentInAll) ++ ((wo_X4 cI cZ ru_h ru_ad ru_from ru_voted ru_undone ru_says ru_texts ru_lines) ++ ((wo_X1 cI cZ cr_h cr_ad cr_book cr_signed cr_size cr_latestPaper cr_paperBefore cr_paperLast cr_paperTold cr_papers cr_minutesHere cr_heres) ++ (wo_X0 cI cZ ca_h ca_ad ca_skill ca_days ca_wanted ca_named ca_minute ca_day ca_refusers ca_order ca_size)))) H := hP
      have hD : va_D A ((wo_X2 cI cZ fl_h fl_ad ru_h cr_h ca_h fl_lists fl_listSize fl_job fl_jobLast fl_refusals fl_notes fl_laws fl_line fl_lineSize fl_clock fl_callsDone fl_sentInAll) ++ ((wo_X4 cI cZ ru_h ru_ad ru_from ru_voted ru_undone ru_says ru_texts ru_lines) ++ ((wo_X1 cI cZ cr_h cr_ad cr_book cr_signed cr_size cr_latestPaper cr_paperBefore cr_paperLast cr_paperTold cr_papers cr_minutesHere cr_heres) ++ (wo_X0 cI cZ ca_h ca_ad ca_skill ca_days ca_wanted ca_named ca_minute ca_day ca_refusers ca_order ca_size)))) := hD
      refine lv_if_ne (tgt := 53) hx hb dX2_outcomeFor_48 (by decide) (fun c_7 => ?_) (fun c_7 => ?_)
      · have h := h.1 c_7
        refine lv_aload_n hx hb dX2_outcomeFor_53 rfl (lv_at hl 0 rfl) ?_
        refine va_get (D := D) (ci := 2) (v := .ref ca_h) (C := RX2) (T := TX2) (N := 15) hx hb hts mi_X2_outcomeFor_X2 hown hK hP 0 rfl rfl 2 (by decide) (hts (.fieldLink RX2 44 "HiringHall$Floor" "calls" "LHiringHall$Calls;") (List.mem_of_getElem? (i := 3) rfl)) (fun _ h9 => h9) rfl dX2_outcomeFor_54 ?_
        refine lv_iload_n hx hb dX2_outcomeFor_57 rfl (lv_at hl 1 rfl) ?_
        refine lv_iload_n hx hb dX2_outcomeFor_58 rfl (lv_at hl 2 rfl) ?_
        have hP : va_P D vwCl ((fun v => ((wo_X2 cI cZ fl_h fl_ad ru_h cr_h ca_h fl_lists fl_listSize fl_job fl_jobLast fl_refusals fl_notes fl_laws fl_line fl_lineSize fl_clock fl_callsDone fl_sentInAll) ++ ((wo_X4 cI cZ ru_h ru_ad ru_from ru_voted ru_undone ru_says ru_texts ru_lines) ++ (wo_X1 cI cZ cr_h cr_ad cr_book cr_signed cr_size cr_latestPaper cr_paperBefore cr_paperLast cr_paperTold cr_papers cr_minutesHere cr_heres))) ++ v) (wo_X0 cI cZ ca_h ca_ad ca_skill ca_days ca_wanted ca_named ca_minute ca_day ca_refusers ca_order ca_size)) H := hP
        have hD : va_D A ((fun v => ((wo_X2 cI cZ fl_h fl_ad ru_h cr_h ca_h fl_lists fl_listSize fl_job fl_jobLast fl_refusals fl_notes fl_laws fl_line fl_lineSize fl_clock fl_callsDone fl_sentInAll) ++ ((wo_X4 cI cZ ru_h ru_ad ru_from ru_voted ru_undone ru_says ru_texts ru_lines) ++ (wo_X1 cI cZ cr_h cr_ad cr_book cr_signed cr_size cr_latestPaper cr_paperBefore cr_paperLast cr_paperTold cr_papers cr_minutesHere cr_heres))) ++ v) (wo_X0 cI cZ ca_h ca_ad ca_skill ca_days ca_wanted ca_named ca_minute ca_day ca_refusers ca_order ca_size)) := hD
        refine mk_ci (f := fun v => ((wo_X2 cI cZ fl_h fl_ad ru_h cr_h ca_h fl_lists fl_listSize fl_job fl_jobLast fl_refusals fl_notes fl_laws fl_line fl_lineSize fl_clock fl_callsDone fl_sentInAll) ++ ((wo_X4 cI cZ ru_h ru_ad ru_from ru_voted ru_undone ru_says ru_texts ru_lines) ++ (wo_X1 cI cZ cr_h cr_ad cr_book cr_signed cr_size cr_latestPaper cr_paperBefore cr_paperLast cr_paperTold cr_papers cr_minutesHere cr_heres))) ++ v) (mk_fr_end _) (va_runVN (As := [.int x1, .int x2]) (rest := []) ⟨hx, hb, hml, hown, hts⟩ (c_X0_refuses l D cI cZ E ca_h ca_ad ca_skill ca_days ca_wanted ca_named ca_minute ca_day ca_refusers ca_order ca_size x1 x2 _ h H.size) ⟨va_cnB 2 hts gX2_outcomeFor_X0_refuses_n148 rfl rfl rfl (hN.2 (RX2, 148, yX0_refuses, RX7) (List.mem_of_getElem? (i := 24) rfl)) (hts (.initialized RX0) (List.mem_of_getElem? (i := 19) rfl)) (by decide +kernel) ⟨Nat.le_of_ble_eq_true rfl, Nat.le_of_ble_eq_true rfl⟩, hts (.instanceMethod yX0_refuses) (List.mem_of_getElem? (i := 18) rfl), hts (.selects RX0 yX0_refuses yX0_refuses) (List.mem_of_getElem? (i := 20) rfl)⟩ (mk_preV (ci := 0) (mk_fr_end _) hK hN hE hS hA hP hD rfl rfl) rfl rfl hl.1 rfl (lv_room (Nat.le_of_ble_eq_true rfl)) dX2_outcomeFor_59 ⟨Nat.le_of_ble_eq_true rfl, Nat.le_of_ble_eq_true rfl⟩) hP hD hS hA (fun r8 u H locs h hP hD hS => ?_)
        try dsimp only at h
        have hP : va_P D vwCl ((wo_X2 cI cZ fl_h fl_ad ru_h cr_h ca_h fl_lists fl_listSize fl_job fl_jobLast fl_refusals fl_notes fl_laws fl_line fl_lineSize fl_clock fl_callsDone fl_sentInAll) ++ ((wo_X4 cI cZ ru_h ru_ad ru_from ru_voted ru_undone ru_says ru_texts ru_lines) ++ ((wo_X1 cI cZ cr_h cr_ad cr_book cr_signed cr_size cr_latestPaper cr_paperBefore cr_paperLast cr_paperTold cr_papers cr_minutesHere cr_heres) ++ (wo_X0 cI cZ ca_h ca_ad ca_skill ca_days ca_wanted ca_named ca_minute ca_day ca_refusers ca_order ca_size)))) H := hP
        have hD : va_D A ((wo_X2 cI cZ fl_h fl_ad ru_h cr_h ca_h fl_lists fl_listSize fl_job fl_jobLast fl_refusals fl_notes fl_laws fl_line fl_lineSize fl_clock fl_callsDone fl_sentInAll) ++ ((wo_X4 cI cZ ru_h ru_ad ru_from ru_voted ru_undone ru_says ru_texts ru_lines) ++ ((wo_X1 cI cZ cr_h cr_ad cr_book cr_signed cr_size cr_latestPaper cr_paperBefore cr_paperLast cr_paperTold cr_papers cr_minutesHere cr_heres) ++ (wo_X0 cI cZ ca_h ca_ad ca_skill ca_days ca_wanted ca_named ca_minute ca_day ca_refusers ca_order ca_size)))) := hD
        refine lv_if_eq (tgt := 69) hx hb dX2_outcomeFor_62 (by decide) (fun c_9 => ?_) (fun c_9 => ?_)
        · have h := h.1 c_9
          refine lv_iconst (v := 5) hx hb dX2_outcomeFor_69 (by decide) ?_
          rw [hQ]
          exact W.iret (v := 5) hx hb hr (fun t ht hW => ⟨⟨5, (), rfl, h, by rw [ht]; exact hP, va_K.moved hW.alike hK, hD⟩, hS.F ht⟩) hS.2.2 dX2_outcomeFor_70
        · have h := h.2 c_9
          refine lv_iconst (v := 4) hx hb dX2_outcomeFor_65 (by decide) ?_
          refine lv_goto (tgt := 70) hx hb dX2_outcomeFor_66 (by decide) ?_
          rw [hQ]
          exact W.iret (v := 4) hx hb hr (fun t ht hW => ⟨⟨4, (), rfl, h, by rw [ht]; exact hP, va_K.moved hW.alike hK, hD⟩, hS.F ht⟩) hS.2.2 dX2_outcomeFor_70
      · have h := h.2 c_7
        refine lv_iconst (v := 3) hx hb dX2_outcomeFor_51 (by decide) ?_
        rw [hQ]
        exact W.iret (v := 3) hx hb hr (fun t ht hW => ⟨⟨3, (), rfl, h, by rw [ht]; exact hP, va_K.moved hW.alike hK, hD⟩, hS.F ht⟩) hS.2.2 dX2_outcomeFor_52
    · have h := h.2 c_5
      refine lv_iconst (v := 2) hx hb dX2_outcomeFor_33 (by decide) ?_
      rw [hQ]
      exact W.iret (v := 2) hx hb hr (fun t ht hW => ⟨⟨2, (), rfl, h, by rw [ht]; exact hP, va_K.moved hW.alike hK, hD⟩, hS.F ht⟩) hS.2.2 dX2_outcomeFor_34
  · have h := h.2 c_2
    refine lv_iconst (v := 1) hx hb dX2_outcomeFor_10 (by decide) ?_
    rw [hQ]
    exact W.iret (v := 1) hx hb hr (fun t ht hW => ⟨⟨1, (), rfl, h, by rw [ht]; exact hP, va_K.moved hW.alike hK, hD⟩, hS.F ht⟩) hS.2.2 dX2_outcomeFor_11
def rm_X2_takeRefusal : Room := { frames := 1, cells := 0, slots := 0, locals := 25 }
theorem mi_X2_takeRefusal_X2 : ∀ w ∈ wsX20, w ∈ wsX2_takeRefusal := fun _ h => List.mem_cons_of_mem _ (List.mem_append_left _ (List.mem_append_right _ h))
set_option maxHeartbeats 4000000 in
set_option maxRecDepth 100000 in
theorem c_X2_takeRefusal (l : Launch) (D : va_G) (cI cZ : ClassId) (E : (Nat → Nat) × (Nat → Nat)) (fl_h : Nat) (fl_ad : Nat → Nat) (ru_h : Nat) (ru_ad : Nat → Nat) (cr_h : Nat) (cr_ad : Nat → Nat) (ca_h : Nat) (ca_ad : Nat → Nat) (fl_lists : (Nat → Int32)) (fl_listSize : (Nat → Int32)) (fl_job : (Nat → Int32)) (fl_jobLast : (Nat → Int32)) (fl_refusals : (Nat → Int32)) (fl_notes : (Nat → Int32)) (fl_laws : (Nat → Int32)) (fl_line : (Nat → Int32)) (fl_lineSize : Int32) (fl_clock : Int32) (fl_callsDone : Int32) (fl_sentInAll : Int32) (ru_from : (Nat → Int32)) (ru_voted : (Nat → Int32)) (ru_undone : (Nat → Int32)) (ru_says : (Nat → Int32)) (ru_texts : Int32) (ru_lines : Int32) (cr_book : (Nat → Int32)) (cr_signed : (Nat → Int32)) (cr_size : Int32) (cr_latestPaper : (Nat → Int32)) (cr_paperBefore : (Nat → Int32)) (cr_paperLast : (Nat → Int32)) (cr_paperTold : (Nat → Int32)) (cr_papers : Int32) (cr_minutesHere : (Nat → Int32)) (cr_heres : Int32) (ca_skill : (Nat → Int32)) (ca_days : (Nat → Int32)) (ca_wanted : (Nat → Int32)) (ca_named : (Nat → Int32)) (ca_minute : (Nat → Int32)) (ca_day : (Nat → Int32)) (ca_refusers : (Nat → Int32)) (ca_order : (Nat → Int32)) (ca_size : Int32) (x1 : Int32) (K : ((Nat → Int32) → (Nat → Int32) → Int32 → Prop)) (h : wp_X2_takeRefusal fl_lists fl_listSize fl_refusals fl_laws fl_clock cr_book x1 K) : mk_Cv l D cI cZ E yX2_takeRefusal wsX2_takeRefusal rm_X2_takeRefusal ([.ref fl_h, .int x1] : List Value) ((wo_X2 cI cZ fl_h fl_ad ru_h cr_h ca_h fl_lists fl_listSize fl_job fl_jobLast fl_refusals fl_notes fl_laws fl_line fl_lineSize fl_clock fl_callsDone fl_sentInAll) ++ ((wo_X4 cI cZ ru_h ru_ad ru_from ru_voted ru_undone ru_says ru_texts ru_lines) ++ ((wo_X1 cI cZ cr_h cr_ad cr_book cr_signed cr_size cr_latestPaper cr_paperBefore cr_paperLast cr_paperTold cr_papers cr_minutesHere cr_heres) ++ (wo_X0 cI cZ ca_h ca_ad ca_skill ca_days ca_wanted ca_named ca_minute ca_day ca_refusers ca_order ca_size)))) (fun (u : (Nat → Int32) × (Nat → Int32) × Int32) => ((wo_X2 cI cZ fl_h fl_ad ru_h cr_h ca_h u.1 fl_listSize fl_job fl_jobLast u.2.1 fl_notes fl_laws fl_line fl_lineSize u.2.2 fl_callsDone fl_sentInAll) ++ ((wo_X4 cI cZ ru_h ru_ad ru_from ru_voted ru_undone ru_says ru_texts ru_lines) ++ ((wo_X1 cI cZ cr_h cr_ad cr_book cr_signed cr_size cr_latestPaper cr_paperBefore cr_paperLast cr_paperTold cr_papers cr_minutesHere cr_heres) ++ (wo_X0 cI cZ ca_h ca_ad ca_skill ca_days ca_wanted ca_named ca_minute ca_day ca_refusers ca_order ca_size))))) (fun (u : (Nat → Int32) × (Nat → Int32) × Int32) => K u.1 u.2.1 u.2.2) := by
  intro sz
  refine Met.ofW (cc := cX2_takeRefusal) (maxL := 2) (ret := none) (by decide) rfl ?_
  intro p e s m args below meth c s₁ B hml hv
  obtain ⟨rfl, hsz, hP, hK, hD0, hN, hE⟩ := hv
  have hx := B.exec
  have hb := B.bytes
  have hr := B.returns
  have hts := atoms_spec (ws := wsX2_takeRefusal) B.pre
  have hown : s.vm.findClass RX2 = some m.cls := findClass_of_methodNamed B.named
  have hlocks := B.notSynchronized
  subst hsz
  have hD := hD0.self (sz := s.heap.size)
  generalize hAe : va_A ((wo_X2 cI cZ fl_h fl_ad ru_h cr_h ca_h fl_lists fl_listSize fl_job fl_jobLast fl_refusals fl_notes fl_laws fl_line fl_lineSize fl_clock fl_callsDone fl_sentInAll) ++ ((wo_X4 cI cZ ru_h ru_ad ru_from ru_voted ru_undone ru_says ru_texts ru_lines) ++ ((wo_X1 cI cZ cr_h cr_ad cr_book cr_signed cr_size cr_latestPaper cr_paperBefore cr_paperLast cr_paperTold cr_papers cr_minutesHere cr_heres) ++ (wo_X0 cI cZ ca_h ca_ad ca_skill ca_days ca_wanted ca_named ca_minute ca_day ca_refusers ca_order ca_size)))) s.heap.size = A at hD hE ⊢
  have hA : ∀ q : Nat, s.heap.size ≤ q → A q := fun q h => by rw [← hAe]; exact Or.inr h
  have hl := lv_entry ([.ref fl_h, .int x1] : List Value) (n := 2) (Nat.le_of_ble_eq_true rfl)
  rw [lg_entry_eq]
  generalize (lg_sl ([.ref fl_h, .int x1] : List Value) ++ List.replicate (2 - (lg_sl ([.ref fl_h, .int x1] : List Value)).length) Slot.unset).toArray = ls at hl ⊢
  have hl : lv_has ls 2 [(0, .ref fl_h), (1, .int x1)] := hl
  refine mk_absQ (P := fun Q => W p l e _ s m _ below meth c s.heap [] 0 0 Q _) (fun Q hQ => ?_)
  refine mk_absH (P := fun H => W p l e _ s m _ below meth c H [] 0 0 Q _) (fun H hH => ?_)
  have hP : va_P D vwCl ((wo_X2 cI cZ fl_h fl_ad ru_h cr_h ca_h fl_lists fl_listSize fl_job fl_jobLast fl_refusals fl_notes fl_laws fl_line fl_lineSize fl_clock fl_callsDone fl_sentInAll) ++ ((wo_X4 cI cZ ru_h ru_ad ru_from ru_voted ru_undone ru_says ru_texts ru_lines) ++ ((wo_X1 cI cZ cr_h cr_ad cr_book cr_signed cr_size cr_latestPaper cr_paperBefore cr_paperLast cr_paperTold cr_papers cr_minutesHere cr_heres) ++ (wo_X0 cI cZ ca_h ca_ad ca_skill ca_days ca_wanted ca_named ca_minute ca_day ca_refusers ca_order ca_size)))) H := by rw [hH]; exact hP
  have hS : va_S A s.heap H [] := by rw [hH]; exact va_S.rf
  have b46 : ∀ (fl_lists : (Nat → Int32)) (fl_refusals : (Nat → Int32)), wp_X2_takeRefusal_b46 K fl_laws fl_clock fl_lists fl_refusals → ∀ (H : Heap) (locs : List Loc) (ls : Array Slot), va_P D vwCl ((wo_X2 cI cZ fl_h fl_ad ru_h cr_h ca_h fl_lists fl_listSize fl_job fl_jobLast fl_refusals fl_notes fl_laws fl_line fl_lineSize fl_clock fl_callsDone fl_sentInAll) ++ ((wo_X4 cI cZ ru_h ru_ad ru_from ru_voted ru_undone ru_says ru_texts ru_lines) ++ ((wo_X1 cI cZ cr_h cr_ad cr_book cr_signed cr_size cr_latestPaper cr_paperBefore cr_paperLast cr_paperTold cr_papers cr_minutesHere cr_heres) ++ (wo_X0 cI cZ ca_h ca_ad ca_skill ca_days ca_wanted ca_named ca_minute ca_day ca_refusers ca_order ca_size)))) H → va_D A ((wo_X2 cI cZ fl_h fl_ad ru_h cr_h ca_h fl_lists fl_listSize fl_job fl_jobLast fl_refusals fl_notes fl_laws fl_line fl_lineSize fl_clock fl_callsDone fl_sentInAll) ++ ((wo_X4 cI cZ ru_h ru_ad ru_from ru_voted ru_undone ru_says ru_texts ru_lines) ++ ((wo_X1 cI cZ cr_h cr_ad cr_book cr_signed cr_size cr_latestPaper cr_paperBefore cr_paperLast cr_paperTold cr_papers cr_minutesHere cr_heres) ++ (wo_X0 cI cZ ca_h ca_ad ca_skill ca_days ca_wanted ca_named ca_minute ca_day ca_refusers ca_order ca_size)))) → va_S A s.heap H locs → lv_has ls 2 [(0, .ref fl_h)] → W p l e (headSpec wsX2_takeRefusal rm_X2_takeRefusal).room s m ([.ref fl_h, .int x1] : List Value).toArray below meth c H locs 0 0 Q (F0 m 46 ls []) := by
    intro fl_lists fl_refusals h H locs ls hP hD hS hl
    refine lv_aload_n hx hb dX2_takeRefusal_46 rfl (lv_at hl 0 rfl) ?_
    refine lv_dup hx hb dX2_takeRefusal_47 rfl ?_
    refine va_get (D := D) (ci := 2) (v := .int fl_clock) (C := RX2) (T := TX2) (N := 15) hx hb hts mi_X2_takeRefusal_X2 hown hK hP 0 rfl rfl 12 (by decide) (hts (.fieldLink RX2 110 "HiringHall$Floor" "clock" "I") (List.mem_of_getElem? (i := 3) rfl)) (fun _ h9 => h9) rfl dX2_takeRefusal_48 ?_
    refine lv_aload_n hx hb dX2_takeRefusal_51 rfl (lv_at hl 0 rfl) ?_
    refine va_get (D := D) (ci := 2) (v := .ref (fl_ad 9)) (C := RX2) (T := TX2) (N := 15) hx hb hts mi_X2_takeRefusal_X2 hown hK hP 0 rfl rfl 9 (by decide) (hts (.fieldLink RX2 30 "HiringHall$Floor" "laws" "[I") (List.mem_of_getElem? (i := 2) rfl)) (fun _ h9 => h9) rfl dX2_takeRefusal_52 ?_
    refine lv_iconst (v := 2) hx hb dX2_takeRefusal_55 (by decide) ?_
    obtain ⟨hi_1, h⟩ := h
    refine va_iald hx hb hK hP 7 0 rfl rfl hi_1 dX2_takeRefusal_56 ?_
    refine lv_iadd hx hb dX2_takeRefusal_57 ?_
    refine lv_topi (fun y2 e_y2 => ?_)
    have h := h y2 e_y2
    refine va_put (D := D) (ci := 2) (v := .int y2) (ty := .int) (C := RX2) (T := TX2) (N := 15) hx hb hts mi_X2_takeRefusal_X2 tyX2 tyX2_ok nmX2 hown hK hP hD hS 0 rfl rfl 12 (by decide) (hts (.fieldLink RX2 110 "HiringHall$Floor" "clock" "I") (List.mem_of_getElem? (i := 3) rfl)) (fun _ h9 => h9) rfl (by decide +kernel) rfl rfl (Nat.le_of_ble_eq_true rfl) dX2_takeRefusal_58 (fun H locs hP hD hS => ?_)
    have hP : va_P D vwCl ((wo_X2 cI cZ fl_h fl_ad ru_h cr_h ca_h fl_lists fl_listSize fl_job fl_jobLast fl_refusals fl_notes fl_laws fl_line fl_lineSize y2 fl_callsDone fl_sentInAll) ++ ((wo_X4 cI cZ ru_h ru_ad ru_from ru_voted ru_undone ru_says ru_texts ru_lines) ++ ((wo_X1 cI cZ cr_h cr_ad cr_book cr_signed cr_size cr_latestPaper cr_paperBefore cr_paperLast cr_paperTold cr_papers cr_minutesHere cr_heres) ++ (wo_X0 cI cZ ca_h ca_ad ca_skill ca_days ca_wanted ca_named ca_minute ca_day ca_refusers ca_order ca_size)))) H := hP
    have hD : va_D A ((wo_X2 cI cZ fl_h fl_ad ru_h cr_h ca_h fl_lists fl_listSize fl_job fl_jobLast fl_refusals fl_notes fl_laws fl_line fl_lineSize y2 fl_callsDone fl_sentInAll) ++ ((wo_X4 cI cZ ru_h ru_ad ru_from ru_voted ru_undone ru_says ru_texts ru_lines) ++ ((wo_X1 cI cZ cr_h cr_ad cr_book cr_signed cr_size cr_latestPaper cr_paperBefore cr_paperLast cr_paperTold cr_papers cr_minutesHere cr_heres) ++ (wo_X0 cI cZ ca_h ca_ad ca_skill ca_days ca_wanted ca_named ca_minute ca_day ca_refusers ca_order ca_size)))) := hD
    rw [hQ]
    exact W.vret hx hb hr (fun t ht hW => ⟨⟨(fl_lists, fl_refusals, y2), rfl, h, by rw [ht]; exact hP, va_K.moved hW.alike hK, hD⟩, hS.F ht⟩) hS.2.2 dX2_takeRefusal_61
  refine lv_aload_n hx hb dX2_takeRefusal_0 rfl (lv_at hl 0 rfl) ?_
  refine va_get (D := D) (ci := 2) (v := .ref (fl_ad 7)) (C := RX2) (T := TX2) (N := 15) hx hb hts mi_X2_takeRefusal_X2 hown hK hP 0 rfl rfl 7 (by decide) (hts (.fieldLink RX2 24 "HiringHall$Floor" "refusals" "[I") (List.mem_of_getElem? (i := 1) rfl)) (fun _ h9 => h9) rfl dX2_takeRefusal_1 ?_
  refine lv_iload_n hx hb dX2_takeRefusal_4 rfl (lv_at hl 1 rfl) ?_
  refine lv_dup2_11 hx hb dX2_takeRefusal_5 rfl rfl ?_
  obtain ⟨hi_3, h⟩ := h
  refine va_iald hx hb hK hP 5 0 rfl rfl hi_3 dX2_takeRefusal_6 ?_
  refine lv_iconst (v := 1) hx hb dX2_takeRefusal_7 (by decide) ?_
  refine lv_iadd hx hb dX2_takeRefusal_8 ?_
  refine lv_topi (fun y4 e_y4 => ?_)
  have h := h y4 e_y4
  obtain ⟨hi_5, h⟩ := h
  refine va_iast hx hb hK hP hD hS 5 0 rfl rfl hi_5 dX2_takeRefusal_9 (fun H locs hP hD hS => ?_)
  have hP : va_P D vwCl ((wo_X2 cI cZ fl_h fl_ad ru_h cr_h ca_h fl_lists fl_listSize fl_job fl_jobLast (upd fl_refusals (x1.toNatClampNeg) y4) fl_notes fl_laws fl_line fl_lineSize fl_clock fl_callsDone fl_sentInAll) ++ ((wo_X4 cI cZ ru_h ru_ad ru_from ru_voted ru_undone ru_says ru_texts ru_lines) ++ ((wo_X1 cI cZ cr_h cr_ad cr_book cr_signed cr_size cr_latestPaper cr_paperBefore cr_paperLast cr_paperTold cr_papers cr_minutesHere cr_heres) ++ (wo_X0 cI cZ ca_h ca_ad ca_skill ca_days ca_wanted ca_named ca_minute ca_day ca_refusers ca_order ca_size)))) H := hP
  have hD : va_D A ((wo_X2 cI cZ fl_h fl_ad ru_h cr_h ca_h fl_lists fl_listSize fl_job fl_jobLast (upd fl_refusals (x1.toNatClampNeg) y4) fl_notes fl_laws fl_line fl_lineSize fl_clock fl_callsDone fl_sentInAll) ++ ((wo_X4 cI cZ ru_h ru_ad ru_from ru_voted ru_undone ru_says ru_texts ru_lines) ++ ((wo_X1 cI cZ cr_h cr_ad cr_book cr_signed cr_size cr_latestPaper cr_paperBefore cr_paperLast cr_paperTold cr_papers cr_minutesHere cr_heres) ++ (wo_X0 cI cZ ca_h ca_ad ca_skill ca_days ca_wanted ca_named ca_minute ca_day ca_refusers ca_order ca_size)))) := hD
  refine lv_aload_n hx hb dX2_takeRefusal_10 rfl (lv_at hl 0 rfl) ?_
  refine va_get (D := D) (ci := 2) (v := .ref (fl_ad 9)) (C := RX2) (T := TX2) (N := 15) hx hb hts mi_X2_takeRefusal_X2 hown hK hP 0 rfl rfl 9 (by decide) (hts (.fieldLink RX2 30 "HiringHall$Floor" "laws" "[I") (List.mem_of_getElem? (i := 2) rfl)) (fun _ h9 => h9) rfl dX2_takeRefusal_11 ?_
  refine lv_iconst (v := 1) hx hb dX2_takeRefusal_14 (by decide) ?_
  obtain ⟨hi_6, h⟩ := h
  refine va_iald hx hb hK hP 7 0 rfl rfl hi_6 dX2_takeRefusal_15 ?_
  refine lv_if_le (tgt := 46) hx hb dX2_takeRefusal_16 (by decide) (fun c_7 => ?_) (fun c_7 => ?_)
  · have h := h.1 c_7
    exact b46  fl_lists (upd fl_refusals (x1.toNatClampNeg) y4) h _ _ _ hP hD hS (lv_sub hl [0] rfl)
  · have h := h.2 c_7
    refine lv_aload_n hx hb dX2_takeRefusal_19 rfl (lv_at hl 0 rfl) ?_
    refine va_get (D := D) (ci := 2) (v := .ref (fl_ad 7)) (C := RX2) (T := TX2) (N := 15) hx hb hts mi_X2_takeRefusal_X2 hown hK hP 0 rfl rfl 7 (by decide) (hts (.fieldLink RX2 24 "HiringHall$Floor" "refusals" "[I") (List.mem_of_getElem? (i := 1) rfl)) (fun _ h9 => h9) rfl dX2_takeRefusal_20 ?_
    refine lv_iload_n hx hb dX2_takeRefusal_23 rfl (lv_at hl 1 rfl) ?_
    obtain ⟨hi_8, h⟩ := h
    refine va_iald hx hb hK hP 5 0 rfl rfl hi_8 dX2_takeRefusal_24 ?_
    refine lv_aload_n hx hb dX2_takeRefusal_25 rfl (lv_at hl 0 rfl) ?_
    refine va_get (D := D) (ci := 2) (v := .ref (fl_ad 9)) (C := RX2) (T := TX2) (N := 15) hx hb hts mi_X2_takeRefusal_X2 hown hK hP 0 rfl rfl 9 (by decide) (hts (.fieldLink RX2 30 "HiringHall$Floor" "laws" "[I") (List.mem_of_getElem? (i := 2) rfl)) (fun _ h9 => h9) rfl dX2_takeRefusal_26 ?_
    refine lv_iconst (v := 1) hx hb dX2_takeRefusal_29 (by decide) ?_
    obtain ⟨hi_9, h⟩ := h
    refine va_iald hx hb hK hP 7 0 rfl rfl hi_9 dX2_takeRefusal_30 ?_
    refine lv_icmp_lt (tgt := 46) hx hb dX2_takeRefusal_31 (by decide) (fun c_10 => ?_) (fun c_10 => ?_)
    · have h := h.1 c_10
      exact b46  fl_lists (upd fl_refusals (x1.toNatClampNeg) y4) h _ _ _ hP hD hS (lv_sub hl [0] rfl)
    · have h := h.2 c_10
      refine lv_aload_n hx hb dX2_takeRefusal_34 rfl (lv_at hl 0 rfl) ?_
      refine lv_iload_n hx hb dX2_takeRefusal_35 rfl (lv_at hl 1 rfl) ?_
      have hP : va_P D vwCl ((fun v => v) ((wo_X2 cI cZ fl_h fl_ad ru_h cr_h ca_h fl_lists fl_listSize fl_job fl_jobLast (upd fl_refusals (x1.toNatClampNeg) y4) fl_notes fl_laws fl_line fl_lineSize fl_clock fl_callsDone fl_sentInAll) ++ ((wo_X4 cI cZ ru_h ru_ad ru_from ru_voted ru_undone ru_says ru_texts ru_lines) ++ ((wo_X1 cI cZ cr_h cr_ad cr_book cr_signed cr_size cr_latestPaper cr_paperBefore cr_paperLast cr_paperTold cr_papers cr_minutesHere cr_heres) ++ (wo_X0 cI cZ ca_h ca_ad ca_skill ca_days ca_wanted ca_named ca_minute ca_day ca_refusers ca_order ca_size))))) H := hP
      have hD : va_D A ((fun v => v) ((wo_X2 cI cZ fl_h fl_ad ru_h cr_h ca_h fl_lists fl_listSize fl_job fl_jobLast (upd fl_refusals (x1.toNatClampNeg) y4) fl_notes fl_laws fl_line fl_lineSize fl_clock fl_callsDone fl_sentInAll) ++ ((wo_X4 cI cZ ru_h ru_ad ru_from ru_voted ru_undone ru_says ru_texts ru_lines) ++ ((wo_X1 cI cZ cr_h cr_ad cr_book cr_signed cr_size cr_latestPaper cr_paperBefore cr_paperLast cr_paperTold cr_papers cr_minutesHere cr_heres) ++ (wo_X0 cI cZ ca_h ca_ad ca_skill ca_days ca_wanted ca_named ca_minute ca_day ca_refusers ca_order ca_size))))) := hD
      refine mk_cv (f := fun v => v) mk_fr_id (va_runV (As := [.int x1]) (rest := []) ⟨hx, hb, hml, hown, hts⟩ (c_X2_moveToEnd l D cI cZ E fl_h fl_ad ru_h ru_ad cr_h cr_ad ca_h ca_ad fl_lists fl_listSize fl_job fl_jobLast (upd fl_refusals (x1.toNatClampNeg) y4) fl_notes fl_laws fl_line fl_lineSize fl_clock fl_callsDone fl_sentInAll ru_from ru_voted ru_undone ru_says ru_texts ru_lines cr_book cr_signed cr_size cr_latestPaper cr_paperBefore cr_paperLast cr_paperTold cr_papers cr_minutesHere cr_heres ca_skill ca_days ca_wanted ca_named ca_minute ca_day ca_refusers ca_order ca_size x1 _ h H.size) (cwV 1 hts gX2_takeRefusal_X2_moveToEnd rfl rfl rfl (by decide +kernel) ⟨Nat.le_of_ble_eq_true rfl, Nat.le_of_ble_eq_true rfl⟩) (mk_preV (ci := 2) mk_fr_id hK hN hE hS hA hP hD rfl rfl) rfl rfl hl.1 rfl (lv_room (Nat.le_of_ble_eq_true rfl)) dX2_takeRefusal_36 ⟨Nat.le_of_ble_eq_true rfl, Nat.le_of_ble_eq_true rfl⟩) hP hD hS hA (fun u H locs h hP hD hS => ?_)
      obtain ⟨a11, rfl⟩ : ∃ z, z = u := ⟨_, rfl⟩
      try dsimp only at h
      have hP : va_P D vwCl ((wo_X2 cI cZ fl_h fl_ad ru_h cr_h ca_h a11 fl_listSize fl_job fl_jobLast (upd fl_refusals (x1.toNatClampNeg) y4) fl_notes fl_laws fl_line fl_lineSize fl_clock fl_callsDone fl_sentInAll) ++ ((wo_X4 cI cZ ru_h ru_ad ru_from ru_voted ru_undone ru_says ru_texts ru_lines) ++ ((wo_X1 cI cZ cr_h cr_ad cr_book cr_signed cr_size cr_latestPaper cr_paperBefore cr_paperLast cr_paperTold cr_papers cr_minutesHere cr_heres) ++ (wo_X0 cI cZ ca_h ca_ad ca_skill ca_days ca_wanted ca_named ca_minute ca_day ca_refusers ca_order ca_size)))) H := hP
      have hD : va_D A ((wo_X2 cI cZ fl_h fl_ad ru_h cr_h ca_h a11 fl_listSize fl_job fl_jobLast (upd fl_refusals (x1.toNatClampNeg) y4) fl_notes fl_laws fl_line fl_lineSize fl_clock fl_callsDone fl_sentInAll) ++ ((wo_X4 cI cZ ru_h ru_ad ru_from ru_voted ru_undone ru_says ru_texts ru_lines) ++ ((wo_X1 cI cZ cr_h cr_ad cr_book cr_signed cr_size cr_latestPaper cr_paperBefore cr_paperLast cr_paperTold cr_papers cr_minutesHere cr_heres) ++ (wo_X0 cI cZ ca_h ca_ad ca_skill ca_days ca_wanted ca_named ca_minute ca_day ca_refusers ca_order ca_size)))) := hD
      refine lv_aload_n hx hb dX2_takeRefusal_39 rfl (lv_at hl 0 rfl) ?_
      refine va_get (D := D) (ci := 2) (v := .ref (fl_ad 7)) (C := RX2) (T := TX2) (N := 15) hx hb hts mi_X2_takeRefusal_X2 hown hK hP 0 rfl rfl 7 (by decide) (hts (.fieldLink RX2 24 "HiringHall$Floor" "refusals" "[I") (List.mem_of_getElem? (i := 1) rfl)) (fun _ h9 => h9) rfl dX2_takeRefusal_40 ?_
      refine lv_iload_n hx hb dX2_takeRefusal_43 rfl (lv_at hl 1 rfl) ?_
      refine lv_iconst (v := 0) hx hb dX2_takeRefusal_44 (by decide) ?_
      obtain ⟨hi_12, h⟩ := h
      refine va_iast hx hb hK hP hD hS 5 0 rfl rfl hi_12 dX2_takeRefusal_45 (fun H locs hP hD hS => ?_)
      have hP : va_P D vwCl ((wo_X2 cI cZ fl_h fl_ad ru_h cr_h ca_h a11 fl_listSize fl_job fl_jobLast (upd (upd fl_refusals (x1.toNatClampNeg) y4) (x1.toNatClampNeg) 0) fl_notes fl_laws fl_line fl_lineSize fl_clock fl_callsDone fl_sentInAll) ++ ((wo_X4 cI cZ ru_h ru_ad ru_from ru_voted ru_undone ru_says ru_texts ru_lines) ++ ((wo_X1 cI cZ cr_h cr_ad cr_book cr_signed cr_size cr_latestPaper cr_paperBefore cr_paperLast cr_paperTold cr_papers cr_minutesHere cr_heres) ++ (wo_X0 cI cZ ca_h ca_ad ca_skill ca_days ca_wanted ca_named ca_minute ca_day ca_refusers ca_order ca_size)))) H := hP
      have hD : va_D A ((wo_X2 cI cZ fl_h fl_ad ru_h cr_h ca_h a11 fl_listSize fl_job fl_jobLast (upd (upd fl_refusals (x1.toNatClampNeg) y4) (x1.toNatClampNeg) 0) fl_notes fl_laws fl_line fl_lineSize fl_clock fl_callsDone fl_sentInAll) ++ ((wo_X4 cI cZ ru_h ru_ad ru_from ru_voted ru_undone ru_says ru_texts ru_lines) ++ ((wo_X1 cI cZ cr_h cr_ad cr_book cr_signed cr_size cr_latestPaper cr_paperBefore cr_paperLast cr_paperTold cr_papers cr_minutesHere cr_heres) ++ (wo_X0 cI cZ ca_h ca_ad ca_skill ca_days ca_wanted ca_named ca_minute ca_day ca_refusers ca_order ca_size)))) := hD
      exact b46  a11 (upd (upd fl_refusals (x1.toNatClampNeg) y4) (x1.toNatClampNeg) 0) h _ _ _ hP hD hS (lv_sub hl [0] rfl)
def rm_X2_send : Room := { frames := 0, cells := 0, slots := 0, locals := 0 }
theorem mi_X2_send_X0 : ∀ w ∈ wsX00, w ∈ wsX2_send := fun _ h => List.mem_cons_of_mem _ (List.mem_append_right _ h)
theorem mi_X2_send_X2 : ∀ w ∈ wsX20, w ∈ wsX2_send := fun _ h => List.mem_cons_of_mem _ (List.mem_append_left _ (List.mem_append_right _ h))
set_option maxHeartbeats 4000000 in
set_option maxRecDepth 100000 in
theorem c_X2_send (l : Launch) (D : va_G) (cI cZ : ClassId) (E : (Nat → Nat) × (Nat → Nat)) (fl_h : Nat) (fl_ad : Nat → Nat) (ru_h : Nat) (ru_ad : Nat → Nat) (cr_h : Nat) (cr_ad : Nat → Nat) (ca_h : Nat) (ca_ad : Nat → Nat) (fl_lists : (Nat → Int32)) (fl_listSize : (Nat → Int32)) (fl_job : (Nat → Int32)) (fl_jobLast : (Nat → Int32)) (fl_refusals : (Nat → Int32)) (fl_notes : (Nat → Int32)) (fl_laws : (Nat → Int32)) (fl_line : (Nat → Int32)) (fl_lineSize : Int32) (fl_clock : Int32) (fl_callsDone : Int32) (fl_sentInAll : Int32) (ru_from : (Nat → Int32)) (ru_voted : (Nat → Int32)) (ru_undone : (Nat → Int32)) (ru_says : (Nat → Int32)) (ru_texts : Int32) (ru_lines : Int32) (cr_book : (Nat → Int32)) (cr_signed : (Nat → Int32)) (cr_size : Int32) (cr_latestPaper : (Nat → Int32)) (cr_paperBefore : (Nat → Int32)) (cr_paperLast : (Nat → Int32)) (cr_paperTold : (Nat → Int32)) (cr_papers : Int32) (cr_minutesHere : (Nat → Int32)) (cr_heres : Int32) (ca_skill : (Nat → Int32)) (ca_days : (Nat → Int32)) (ca_wanted : (Nat → Int32)) (ca_named : (Nat → Int32)) (ca_minute : (Nat → Int32)) (ca_day : (Nat → Int32)) (ca_refusers : (Nat → Int32)) (ca_order : (Nat → Int32)) (ca_size : Int32) (x1 : Int32) (x2 : Int32) (x3 : Int32) (K : ((Nat → Int32) → (Nat → Int32) → (Nat → Int32) → Int32 → Prop)) (h : wp_X2_send fl_job fl_jobLast fl_refusals fl_sentInAll ca_days x1 x2 x3 K) : mk_Cv l D cI cZ E yX2_send wsX2_send rm_X2_send ([.ref fl_h, .int x1, .int x2, .int x3] : List Value) ((wo_X2 cI cZ fl_h fl_ad ru_h cr_h ca_h fl_lists fl_listSize fl_job fl_jobLast fl_refusals fl_notes fl_laws fl_line fl_lineSize fl_clock fl_callsDone fl_sentInAll) ++ ((wo_X4 cI cZ ru_h ru_ad ru_from ru_voted ru_undone ru_says ru_texts ru_lines) ++ ((wo_X1 cI cZ cr_h cr_ad cr_book cr_signed cr_size cr_latestPaper cr_paperBefore cr_paperLast cr_paperTold cr_papers cr_minutesHere cr_heres) ++ (wo_X0 cI cZ ca_h ca_ad ca_skill ca_days ca_wanted ca_named ca_minute ca_day ca_refusers ca_order ca_size)))) (fun (u : (Nat → Int32) × (Nat → Int32) × (Nat → Int32) × Int32) => ((wo_X2 cI cZ fl_h fl_ad ru_h cr_h ca_h fl_lists fl_listSize u.1 u.2.1 u.2.2.1 fl_notes fl_laws fl_line fl_lineSize fl_clock fl_callsDone u.2.2.2) ++ ((wo_X4 cI cZ ru_h ru_ad ru_from ru_voted ru_undone ru_says ru_texts ru_lines) ++ ((wo_X1 cI cZ cr_h cr_ad cr_book cr_signed cr_size cr_latestPaper cr_paperBefore cr_paperLast cr_paperTold cr_papers cr_minutesHere cr_heres) ++ (wo_X0 cI cZ ca_h ca_ad ca_skill ca_days ca_wanted ca_named ca_minute ca_day ca_refusers ca_order ca_size))))) (fun (u : (Nat → Int32) × (Nat → Int32) × (Nat → Int32) × Int32) => K u.1 u.2.1 u.2.2.1 u.2.2.2) := by
  intro sz
  refine Met.ofW (cc := cX2_send) (maxL := 4) (ret := none) (by decide) rfl ?_
  intro p e s m args below meth c s₁ B hml hv
  obtain ⟨rfl, hsz, hP, hK, hD0, hN, hE⟩ := hv
  have hx := B.exec
  have hb := B.bytes
  have hr := B.returns
  have hts := atoms_spec (ws := wsX2_send) B.pre
  have hown : s.vm.findClass RX2 = some m.cls := findClass_of_methodNamed B.named
  have hlocks := B.notSynchronized
  subst hsz
  have hD := hD0.self (sz := s.heap.size)
  generalize hAe : va_A ((wo_X2 cI cZ fl_h fl_ad ru_h cr_h ca_h fl_lists fl_listSize fl_job fl_jobLast fl_refusals fl_notes fl_laws fl_line fl_lineSize fl_clock fl_callsDone fl_sentInAll) ++ ((wo_X4 cI cZ ru_h ru_ad ru_from ru_voted ru_undone ru_says ru_texts ru_lines) ++ ((wo_X1 cI cZ cr_h cr_ad cr_book cr_signed cr_size cr_latestPaper cr_paperBefore cr_paperLast cr_paperTold cr_papers cr_minutesHere cr_heres) ++ (wo_X0 cI cZ ca_h ca_ad ca_skill ca_days ca_wanted ca_named ca_minute ca_day ca_refusers ca_order ca_size)))) s.heap.size = A at hD hE ⊢
  have hA : ∀ q : Nat, s.heap.size ≤ q → A q := fun q h => by rw [← hAe]; exact Or.inr h
  have hl := lv_entry ([.ref fl_h, .int x1, .int x2, .int x3] : List Value) (n := 4) (Nat.le_of_ble_eq_true rfl)
  rw [lg_entry_eq]
  generalize (lg_sl ([.ref fl_h, .int x1, .int x2, .int x3] : List Value) ++ List.replicate (4 - (lg_sl ([.ref fl_h, .int x1, .int x2, .int x3] : List Value)).length) Slot.unset).toArray = ls at hl ⊢
  have hl : lv_has ls 4 [(0, .ref fl_h), (1, .int x1), (2, .int x2), (3, .int x3)] := hl
  refine mk_absQ (P := fun Q => W p l e _ s m _ below meth c s.heap [] 0 0 Q _) (fun Q hQ => ?_)
  refine mk_absH (P := fun H => W p l e _ s m _ below meth c H [] 0 0 Q _) (fun H hH => ?_)
  have hP : va_P D vwCl ((wo_X2 cI cZ fl_h fl_ad ru_h cr_h ca_h fl_lists fl_listSize fl_job fl_jobLast fl_refusals fl_notes fl_laws fl_line fl_lineSize fl_clock fl_callsDone fl_sentInAll) ++ ((wo_X4 cI cZ ru_h ru_ad ru_from ru_voted ru_undone ru_says ru_texts ru_lines) ++ ((wo_X1 cI cZ cr_h cr_ad cr_book cr_signed cr_size cr_latestPaper cr_paperBefore cr_paperLast cr_paperTold cr_papers cr_minutesHere cr_heres) ++ (wo_X0 cI cZ ca_h ca_ad ca_skill ca_days ca_wanted ca_named ca_minute ca_day ca_refusers ca_order ca_size)))) H := by rw [hH]; exact hP
  have hS : va_S A s.heap H [] := by rw [hH]; exact va_S.rf
  refine lv_aload_n hx hb dX2_send_0 rfl (lv_at hl 0 rfl) ?_
  refine va_get (D := D) (ci := 2) (v := .ref (fl_ad 5)) (C := RX2) (T := TX2) (N := 15) hx hb hts mi_X2_send_X2 hown hK hP 0 rfl rfl 5 (by decide) (hts (.fieldLink RX2 18 "HiringHall$Floor" "job" "[I") (List.mem_of_getElem? (i := 1) rfl)) (fun _ h9 => h9) rfl dX2_send_1 ?_
  refine lv_iload_n hx hb dX2_send_4 rfl (lv_at hl 2 rfl) ?_
  refine lv_iload_n hx hb dX2_send_5 rfl (lv_at hl 1 rfl) ?_
  obtain ⟨hi_1, h⟩ := h
  refine va_iast hx hb hK hP hD hS 3 0 rfl rfl hi_1 dX2_send_6 (fun H locs hP hD hS => ?_)
  have hP : va_P D vwCl ((wo_X2 cI cZ fl_h fl_ad ru_h cr_h ca_h fl_lists fl_listSize (upd fl_job (x2.toNatClampNeg) x1) fl_jobLast fl_refusals fl_notes fl_laws fl_line fl_lineSize fl_clock fl_callsDone fl_sentInAll) ++ ((wo_X4 cI cZ ru_h ru_ad ru_from ru_voted ru_undone ru_says ru_texts ru_lines) ++ ((wo_X1 cI cZ cr_h cr_ad cr_book cr_signed cr_size cr_latestPaper cr_paperBefore cr_paperLast cr_paperTold cr_papers cr_minutesHere cr_heres) ++ (wo_X0 cI cZ ca_h ca_ad ca_skill ca_days ca_wanted ca_named ca_minute ca_day ca_refusers ca_order ca_size)))) H := hP
  have hD : va_D A ((wo_X2 cI cZ fl_h fl_ad ru_h cr_h ca_h fl_lists fl_listSize (upd fl_job (x2.toNatClampNeg) x1) fl_jobLast fl_refusals fl_notes fl_laws fl_line fl_lineSize fl_clock fl_callsDone fl_sentInAll) ++ ((wo_X4 cI cZ ru_h ru_ad ru_from ru_voted ru_undone ru_says ru_texts ru_lines) ++ ((wo_X1 cI cZ cr_h cr_ad cr_book cr_signed cr_size cr_latestPaper cr_paperBefore cr_paperLast cr_paperTold cr_papers cr_minutesHere cr_heres) ++ (wo_X0 cI cZ ca_h ca_ad ca_skill ca_days ca_wanted ca_named ca_minute ca_day ca_refusers ca_order ca_size)))) := hD
  refine lv_aload_n hx hb dX2_send_7 rfl (lv_at hl 0 rfl) ?_
  refine va_get (D := D) (ci := 2) (v := .ref (fl_ad 6)) (C := RX2) (T := TX2) (N := 15) hx hb hts mi_X2_send_X2 hown hK hP 0 rfl rfl 6 (by decide) (hts (.fieldLink RX2 21 "HiringHall$Floor" "jobLast" "[I") (List.mem_of_getElem? (i := 2) rfl)) (fun _ h9 => h9) rfl dX2_send_8 ?_
  refine lv_iload_n hx hb dX2_send_11 rfl (lv_at hl 2 rfl) ?_
  refine lv_iload_n hx hb dX2_send_12 rfl (lv_at hl 3 rfl) ?_
  refine lv_aload_n hx hb dX2_send_13 rfl (lv_at hl 0 rfl) ?_
  refine va_get (D := D) (ci := 2) (v := .ref ca_h) (C := RX2) (T := TX2) (N := 15) hx hb hts mi_X2_send_X2 hown hK hP 0 rfl rfl 2 (by decide) (hts (.fieldLink RX2 44 "HiringHall$Floor" "calls" "LHiringHall$Calls;") (List.mem_of_getElem? (i := 3) rfl)) (fun _ h9 => h9) rfl dX2_send_14 ?_
  refine va_getN (D := D) (ci := 0) (v := .ref (ca_ad 1)) (C := RX0) (T := TX0) (N := 9) hx hb hts mi_X2_send_X0 hown hK hP 22 rfl rfl 1 (by decide) (va_Nw.use rfl (hN.1 (RX2, 92, RX0, "days", "[I", RX7) (List.mem_of_getElem? (i := 16) rfl))) (fun _ h9 => h9) rfl dX2_send_17 ?_
  refine lv_iload_n hx hb dX2_send_20 rfl (lv_at hl 1 rfl) ?_
  obtain ⟨hi_2, h⟩ := h
  refine va_iald hx hb hK hP 24 0 rfl rfl hi_2 dX2_send_21 ?_
  refine lv_iadd hx hb dX2_send_22 ?_
  refine lv_iconst (v := 1) hx hb dX2_send_23 (by decide) ?_
  refine lv_isub hx hb dX2_send_24 ?_
  refine lv_topi (fun y3 e_y3 => ?_)
  have h := h y3 e_y3
  obtain ⟨hi_4, h⟩ := h
  refine va_iast hx hb hK hP hD hS 4 0 rfl rfl hi_4 dX2_send_25 (fun H locs hP hD hS => ?_)
  have hP : va_P D vwCl ((wo_X2 cI cZ fl_h fl_ad ru_h cr_h ca_h fl_lists fl_listSize (upd fl_job (x2.toNatClampNeg) x1) (upd fl_jobLast (x2.toNatClampNeg) y3) fl_refusals fl_notes fl_laws fl_line fl_lineSize fl_clock fl_callsDone fl_sentInAll) ++ ((wo_X4 cI cZ ru_h ru_ad ru_from ru_voted ru_undone ru_says ru_texts ru_lines) ++ ((wo_X1 cI cZ cr_h cr_ad cr_book cr_signed cr_size cr_latestPaper cr_paperBefore cr_paperLast cr_paperTold cr_papers cr_minutesHere cr_heres) ++ (wo_X0 cI cZ ca_h ca_ad ca_skill ca_days ca_wanted ca_named ca_minute ca_day ca_refusers ca_order ca_size)))) H := hP
  have hD : va_D A ((wo_X2 cI cZ fl_h fl_ad ru_h cr_h ca_h fl_lists fl_listSize (upd fl_job (x2.toNatClampNeg) x1) (upd fl_jobLast (x2.toNatClampNeg) y3) fl_refusals fl_notes fl_laws fl_line fl_lineSize fl_clock fl_callsDone fl_sentInAll) ++ ((wo_X4 cI cZ ru_h ru_ad ru_from ru_voted ru_undone ru_says ru_texts ru_lines) ++ ((wo_X1 cI cZ cr_h cr_ad cr_book cr_signed cr_size cr_latestPaper cr_paperBefore cr_paperLast cr_paperTold cr_papers cr_minutesHere cr_heres) ++ (wo_X0 cI cZ ca_h ca_ad ca_skill ca_days ca_wanted ca_named ca_minute ca_day ca_refusers ca_order ca_size)))) := hD
  refine lv_aload_n hx hb dX2_send_26 rfl (lv_at hl 0 rfl) ?_
  refine va_get (D := D) (ci := 2) (v := .ref (fl_ad 7)) (C := RX2) (T := TX2) (N := 15) hx hb hts mi_X2_send_X2 hown hK hP 0 rfl rfl 7 (by decide) (hts (.fieldLink RX2 24 "HiringHall$Floor" "refusals" "[I") (List.mem_of_getElem? (i := 4) rfl)) (fun _ h9 => h9) rfl dX2_send_27 ?_
  refine lv_iload_n hx hb dX2_send_30 rfl (lv_at hl 2 rfl) ?_
  refine lv_iconst (v := 0) hx hb dX2_send_31 (by decide) ?_
  obtain ⟨hi_5, h⟩ := h
  refine va_iast hx hb hK hP hD hS 5 0 rfl rfl hi_5 dX2_send_32 (fun H locs hP hD hS => ?_)
  have hP : va_P D vwCl ((wo_X2 cI cZ fl_h fl_ad ru_h cr_h ca_h fl_lists fl_listSize (upd fl_job (x2.toNatClampNeg) x1) (upd fl_jobLast (x2.toNatClampNeg) y3) (upd fl_refusals (x2.toNatClampNeg) 0) fl_notes fl_laws fl_line fl_lineSize fl_clock fl_callsDone fl_sentInAll) ++ ((wo_X4 cI cZ ru_h ru_ad ru_from ru_voted ru_undone ru_says ru_texts ru_lines) ++ ((wo_X1 cI cZ cr_h cr_ad cr_book cr_signed cr_size cr_latestPaper cr_paperBefore cr_paperLast cr_paperTold cr_papers cr_minutesHere cr_heres) ++ (wo_X0 cI cZ ca_h ca_ad ca_skill ca_days ca_wanted ca_named ca_minute ca_day ca_refusers ca_order ca_size)))) H := hP
  have hD : va_D A ((wo_X2 cI cZ fl_h fl_ad ru_h cr_h ca_h fl_lists fl_listSize (upd fl_job (x2.toNatClampNeg) x1) (upd fl_jobLast (x2.toNatClampNeg) y3) (upd fl_refusals (x2.toNatClampNeg) 0) fl_notes fl_laws fl_line fl_lineSize fl_clock fl_callsDone fl_sentInAll) ++ ((wo_X4 cI cZ ru_h ru_ad ru_from ru_voted ru_undone ru_says ru_texts ru_lines) ++ ((wo_X1 cI cZ cr_h cr_ad cr_book cr_signed cr_size cr_latestPaper cr_paperBefore cr_paperLast cr_paperTold cr_papers cr_minutesHere cr_heres) ++ (wo_X0 cI cZ ca_h ca_ad ca_skill ca_days ca_wanted ca_named ca_minute ca_day ca_refusers ca_order ca_size)))) := hD
  refine lv_aload_n hx hb dX2_send_33 rfl (lv_at hl 0 rfl) ?_
  refine lv_dup hx hb dX2_send_34 rfl ?_
  refine va_get (D := D) (ci := 2) (v := .int fl_sentInAll) (C := RX2) (T := TX2) (N := 15) hx hb hts mi_X2_send_X2 hown hK hP 0 rfl rfl 14 (by decide) (hts (.fieldLink RX2 58 "HiringHall$Floor" "sentInAll" "I") (List.mem_of_getElem? (i := 5) rfl)) (fun _ h9 => h9) rfl dX2_send_35 ?_
  refine lv_iconst (v := 1) hx hb dX2_send_38 (by decide) ?_
  refine lv_iadd hx hb dX2_send_39 ?_
  refine lv_topi (fun y6 e_y6 => ?_)
  have h := h y6 e_y6
  refine va_put (D := D) (ci := 2) (v := .int y6) (ty := .int) (C := RX2) (T := TX2) (N := 15) hx hb hts mi_X2_send_X2 tyX2 tyX2_ok nmX2 hown hK hP hD hS 0 rfl rfl 14 (by decide) (hts (.fieldLink RX2 58 "HiringHall$Floor" "sentInAll" "I") (List.mem_of_getElem? (i := 5) rfl)) (fun _ h9 => h9) rfl (by decide +kernel) rfl rfl (Nat.le_of_ble_eq_true rfl) dX2_send_40 (fun H locs hP hD hS => ?_)
  have hP : va_P D vwCl ((wo_X2 cI cZ fl_h fl_ad ru_h cr_h ca_h fl_lists fl_listSize (upd fl_job (x2.toNatClampNeg) x1) (upd fl_jobLast (x2.toNatClampNeg) y3) (upd fl_refusals (x2.toNatClampNeg) 0) fl_notes fl_laws fl_line fl_lineSize fl_clock fl_callsDone y6) ++ ((wo_X4 cI cZ ru_h ru_ad ru_from ru_voted ru_undone ru_says ru_texts ru_lines) ++ ((wo_X1 cI cZ cr_h cr_ad cr_book cr_signed cr_size cr_latestPaper cr_paperBefore cr_paperLast cr_paperTold cr_papers cr_minutesHere cr_heres) ++ (wo_X0 cI cZ ca_h ca_ad ca_skill ca_days ca_wanted ca_named ca_minute ca_day ca_refusers ca_order ca_size)))) H := hP
  have hD : va_D A ((wo_X2 cI cZ fl_h fl_ad ru_h cr_h ca_h fl_lists fl_listSize (upd fl_job (x2.toNatClampNeg) x1) (upd fl_jobLast (x2.toNatClampNeg) y3) (upd fl_refusals (x2.toNatClampNeg) 0) fl_notes fl_laws fl_line fl_lineSize fl_clock fl_callsDone y6) ++ ((wo_X4 cI cZ ru_h ru_ad ru_from ru_voted ru_undone ru_says ru_texts ru_lines) ++ ((wo_X1 cI cZ cr_h cr_ad cr_book cr_signed cr_size cr_latestPaper cr_paperBefore cr_paperLast cr_paperTold cr_papers cr_minutesHere cr_heres) ++ (wo_X0 cI cZ ca_h ca_ad ca_skill ca_days ca_wanted ca_named ca_minute ca_day ca_refusers ca_order ca_size)))) := hD
  rw [hQ]
  exact W.vret hx hb hr (fun t ht hW => ⟨⟨((upd fl_job (x2.toNatClampNeg) x1), (upd fl_jobLast (x2.toNatClampNeg) y3), (upd fl_refusals (x2.toNatClampNeg) 0), y6), rfl, h, by rw [ht]; exact hP, va_K.moved hW.alike hK, hD⟩, hS.F ht⟩) hS.2.2 dX2_send_43
def rm_X2_ask : Room := { frames := 2, cells := 0, slots := 0, locals := 48 }
theorem mi_X2_ask_X2 : ∀ w ∈ wsX20, w ∈ wsX2_ask := fun _ h => List.mem_cons_of_mem _ (List.mem_append_left _ (List.mem_append_left _ (List.mem_append_right _ h)))
set_option maxHeartbeats 4000000 in
set_option maxRecDepth 100000 in
theorem c_X2_ask (l : Launch) (D : va_G) (cI cZ : ClassId) (E : (Nat → Nat) × (Nat → Nat)) (fl_h : Nat) (fl_ad : Nat → Nat) (ru_h : Nat) (ru_ad : Nat → Nat) (cr_h : Nat) (cr_ad : Nat → Nat) (ca_h : Nat) (ca_ad : Nat → Nat) (fl_lists : (Nat → Int32)) (fl_listSize : (Nat → Int32)) (fl_job : (Nat → Int32)) (fl_jobLast : (Nat → Int32)) (fl_refusals : (Nat → Int32)) (fl_notes : (Nat → Int32)) (fl_laws : (Nat → Int32)) (fl_line : (Nat → Int32)) (fl_lineSize : Int32) (fl_clock : Int32) (fl_callsDone : Int32) (fl_sentInAll : Int32) (ru_from : (Nat → Int32)) (ru_voted : (Nat → Int32)) (ru_undone : (Nat → Int32)) (ru_says : (Nat → Int32)) (ru_texts : Int32) (ru_lines : Int32) (cr_book : (Nat → Int32)) (cr_signed : (Nat → Int32)) (cr_size : Int32) (cr_latestPaper : (Nat → Int32)) (cr_paperBefore : (Nat → Int32)) (cr_paperLast : (Nat → Int32)) (cr_paperTold : (Nat → Int32)) (cr_papers : Int32) (cr_minutesHere : (Nat → Int32)) (cr_heres : Int32) (ca_skill : (Nat → Int32)) (ca_days : (Nat → Int32)) (ca_wanted : (Nat → Int32)) (ca_named : (Nat → Int32)) (ca_minute : (Nat → Int32)) (ca_day : (Nat → Int32)) (ca_refusers : (Nat → Int32)) (ca_order : (Nat → Int32)) (ca_size : Int32) (x1 : Int32) (x2 : Int32) (x3 : Int32) (K : (Int32 → (Nat → Int32) → (Nat → Int32) → (Nat → Int32) → (Nat → Int32) → (Nat → Int32) → Int32 → Int32 → Prop)) (h : wp_X2_ask fl_lists fl_listSize fl_job fl_jobLast fl_refusals fl_notes fl_laws fl_clock fl_sentInAll cr_book cr_latestPaper cr_paperBefore cr_paperLast cr_paperTold cr_papers cr_minutesHere ca_skill ca_days ca_refusers x1 x2 x3 K) : mk_Ci l D cI cZ E yX2_ask wsX2_ask rm_X2_ask ([.ref fl_h, .int x1, .int x2, .int x3] : List Value) ((wo_X2 cI cZ fl_h fl_ad ru_h cr_h ca_h fl_lists fl_listSize fl_job fl_jobLast fl_refusals fl_notes fl_laws fl_line fl_lineSize fl_clock fl_callsDone fl_sentInAll) ++ ((wo_X4 cI cZ ru_h ru_ad ru_from ru_voted ru_undone ru_says ru_texts ru_lines) ++ ((wo_X1 cI cZ cr_h cr_ad cr_book cr_signed cr_size cr_latestPaper cr_paperBefore cr_paperLast cr_paperTold cr_papers cr_minutesHere cr_heres) ++ (wo_X0 cI cZ ca_h ca_ad ca_skill ca_days ca_wanted ca_named ca_minute ca_day ca_refusers ca_order ca_size)))) (fun (u : (Nat → Int32) × (Nat → Int32) × (Nat → Int32) × (Nat → Int32) × (Nat → Int32) × Int32 × Int32) => ((wo_X2 cI cZ fl_h fl_ad ru_h cr_h ca_h u.1 fl_listSize u.2.1 u.2.2.1 u.2.2.2.1 u.2.2.2.2.1 fl_laws fl_line fl_lineSize u.2.2.2.2.2.1 fl_callsDone u.2.2.2.2.2.2) ++ ((wo_X4 cI cZ ru_h ru_ad ru_from ru_voted ru_undone ru_says ru_texts ru_lines) ++ ((wo_X1 cI cZ cr_h cr_ad cr_book cr_signed cr_size cr_latestPaper cr_paperBefore cr_paperLast cr_paperTold cr_papers cr_minutesHere cr_heres) ++ (wo_X0 cI cZ ca_h ca_ad ca_skill ca_days ca_wanted ca_named ca_minute ca_day ca_refusers ca_order ca_size))))) (fun (r : Int32) (u : (Nat → Int32) × (Nat → Int32) × (Nat → Int32) × (Nat → Int32) × (Nat → Int32) × Int32 × Int32) => K r u.1 u.2.1 u.2.2.1 u.2.2.2.1 u.2.2.2.2.1 u.2.2.2.2.2.1 u.2.2.2.2.2.2) := by
  intro sz
  refine Met.ofW (cc := cX2_ask) (maxL := 5) (ret := (some .int)) (by decide) rfl ?_
  intro p e s m args below meth c s₁ B hml hv
  obtain ⟨rfl, hsz, hP, hK, hD0, hN, hE⟩ := hv
  have hx := B.exec
  have hb := B.bytes
  have hr := B.returns
  have hts := atoms_spec (ws := wsX2_ask) B.pre
  have hown : s.vm.findClass RX2 = some m.cls := findClass_of_methodNamed B.named
  have hlocks := B.notSynchronized
  subst hsz
  have hD := hD0.self (sz := s.heap.size)
  generalize hAe : va_A ((wo_X2 cI cZ fl_h fl_ad ru_h cr_h ca_h fl_lists fl_listSize fl_job fl_jobLast fl_refusals fl_notes fl_laws fl_line fl_lineSize fl_clock fl_callsDone fl_sentInAll) ++ ((wo_X4 cI cZ ru_h ru_ad ru_from ru_voted ru_undone ru_says ru_texts ru_lines) ++ ((wo_X1 cI cZ cr_h cr_ad cr_book cr_signed cr_size cr_latestPaper cr_paperBefore cr_paperLast cr_paperTold cr_papers cr_minutesHere cr_heres) ++ (wo_X0 cI cZ ca_h ca_ad ca_skill ca_days ca_wanted ca_named ca_minute ca_day ca_refusers ca_order ca_size)))) s.heap.size = A at hD hE ⊢
  have hA : ∀ q : Nat, s.heap.size ≤ q → A q := fun q h => by rw [← hAe]; exact Or.inr h
  have hl := lv_entry ([.ref fl_h, .int x1, .int x2, .int x3] : List Value) (n := 5) (Nat.le_of_ble_eq_true rfl)
  rw [lg_entry_eq]
  generalize (lg_sl ([.ref fl_h, .int x1, .int x2, .int x3] : List Value) ++ List.replicate (5 - (lg_sl ([.ref fl_h, .int x1, .int x2, .int x3] : List Value)).length) Slot.unset).toArray = ls at hl ⊢
  have hl : lv_has ls 5 [(0, .ref fl_h), (1, .int x1), (2, .int x2), (3, .int x3)] := hl
  refine mk_absQ (P := fun Q => W p l e _ s m _ below meth c s.heap [] 0 0 Q _) (fun Q hQ => ?_)
  refine mk_absH (P := fun H => W p l e _ s m _ below meth c H [] 0 0 Q _) (fun H hH => ?_)
  have hP : va_P D vwCl ((wo_X2 cI cZ fl_h fl_ad ru_h cr_h ca_h fl_lists fl_listSize fl_job fl_jobLast fl_refusals fl_notes fl_laws fl_line fl_lineSize fl_clock fl_callsDone fl_sentInAll) ++ ((wo_X4 cI cZ ru_h ru_ad ru_from ru_voted ru_undone ru_says ru_texts ru_lines) ++ ((wo_X1 cI cZ cr_h cr_ad cr_book cr_signed cr_size cr_latestPaper cr_paperBefore cr_paperLast cr_paperTold cr_papers cr_minutesHere cr_heres) ++ (wo_X0 cI cZ ca_h ca_ad ca_skill ca_days ca_wanted ca_named ca_minute ca_day ca_refusers ca_order ca_size)))) H := by rw [hH]; exact hP
  have hS : va_S A s.heap H [] := by rw [hH]; exact va_S.rf
  refine lv_aload_n hx hb dX2_ask_0 rfl (lv_at hl 0 rfl) ?_
  refine lv_iload_n hx hb dX2_ask_1 rfl (lv_at hl 1 rfl) ?_
  refine lv_iload_n hx hb dX2_ask_2 rfl (lv_at hl 2 rfl) ?_
  refine lv_iload_n hx hb dX2_ask_3 rfl (lv_at hl 3 rfl) ?_
  have hP : va_P D vwCl ((fun v => v) ((wo_X2 cI cZ fl_h fl_ad ru_h cr_h ca_h fl_lists fl_listSize fl_job fl_jobLast fl_refusals fl_notes fl_laws fl_line fl_lineSize fl_clock fl_callsDone fl_sentInAll) ++ ((wo_X4 cI cZ ru_h ru_ad ru_from ru_voted ru_undone ru_says ru_texts ru_lines) ++ ((wo_X1 cI cZ cr_h cr_ad cr_book cr_signed cr_size cr_latestPaper cr_paperBefore cr_paperLast cr_paperTold cr_papers cr_minutesHere cr_heres) ++ (wo_X0 cI cZ ca_h ca_ad ca_skill ca_days ca_wanted ca_named ca_minute ca_day ca_refusers ca_order ca_size))))) H := hP
  have hD : va_D A ((fun v => v) ((wo_X2 cI cZ fl_h fl_ad ru_h cr_h ca_h fl_lists fl_listSize fl_job fl_jobLast fl_refusals fl_notes fl_laws fl_line fl_lineSize fl_clock fl_callsDone fl_sentInAll) ++ ((wo_X4 cI cZ ru_h ru_ad ru_from ru_voted ru_undone ru_says ru_texts ru_lines) ++ ((wo_X1 cI cZ cr_h cr_ad cr_book cr_signed cr_size cr_latestPaper cr_paperBefore cr_paperLast cr_paperTold cr_papers cr_minutesHere cr_heres) ++ (wo_X0 cI cZ ca_h ca_ad ca_skill ca_days ca_wanted ca_named ca_minute ca_day ca_refusers ca_order ca_size))))) := hD
  refine mk_ci (f := fun v => v) mk_fr_id (va_runV (As := [.int x1, .int x2, .int x3]) (rest := []) ⟨hx, hb, hml, hown, hts⟩ (c_X2_outcomeFor l D cI cZ E fl_h fl_ad ru_h ru_ad cr_h cr_ad ca_h ca_ad fl_lists fl_listSize fl_job fl_jobLast fl_refusals fl_notes fl_laws fl_line fl_lineSize fl_clock fl_callsDone fl_sentInAll ru_from ru_voted ru_undone ru_says ru_texts ru_lines cr_book cr_signed cr_size cr_latestPaper cr_paperBefore cr_paperLast cr_paperTold cr_papers cr_minutesHere cr_heres ca_skill ca_days ca_wanted ca_named ca_minute ca_day ca_refusers ca_order ca_size x1 x2 x3 _ h H.size) (cwV 3 hts gX2_ask_X2_outcomeFor rfl rfl rfl (by decide +kernel) ⟨Nat.le_of_ble_eq_true rfl, Nat.le_of_ble_eq_true rfl⟩) (mk_preV (ci := 2) mk_fr_id hK hN hE hS hA hP hD rfl rfl) rfl rfl hl.1 rfl (lv_room (Nat.le_of_ble_eq_true rfl)) dX2_ask_4 ⟨Nat.le_of_ble_eq_true rfl, Nat.le_of_ble_eq_true rfl⟩) hP hD hS hA (fun r1 u H locs h hP hD hS => ?_)
  try dsimp only at h
  have hP : va_P D vwCl ((wo_X2 cI cZ fl_h fl_ad ru_h cr_h ca_h fl_lists fl_listSize fl_job fl_jobLast fl_refusals fl_notes fl_laws fl_line fl_lineSize fl_clock fl_callsDone fl_sentInAll) ++ ((wo_X4 cI cZ ru_h ru_ad ru_from ru_voted ru_undone ru_says ru_texts ru_lines) ++ ((wo_X1 cI cZ cr_h cr_ad cr_book cr_signed cr_size cr_latestPaper cr_paperBefore cr_paperLast cr_paperTold cr_papers cr_minutesHere cr_heres) ++ (wo_X0 cI cZ ca_h ca_ad ca_skill ca_days ca_wanted ca_named ca_minute ca_day ca_refusers ca_order ca_size)))) H := hP
  have hD : va_D A ((wo_X2 cI cZ fl_h fl_ad ru_h cr_h ca_h fl_lists fl_listSize fl_job fl_jobLast fl_refusals fl_notes fl_laws fl_line fl_lineSize fl_clock fl_callsDone fl_sentInAll) ++ ((wo_X4 cI cZ ru_h ru_ad ru_from ru_voted ru_undone ru_says ru_texts ru_lines) ++ ((wo_X1 cI cZ cr_h cr_ad cr_book cr_signed cr_size cr_latestPaper cr_paperBefore cr_paperLast cr_paperTold cr_papers cr_minutesHere cr_heres) ++ (wo_X0 cI cZ ca_h ca_ad ca_skill ca_days ca_wanted ca_named ca_minute ca_day ca_refusers ca_order ca_size)))) := hD
  refine lv_istore (lv' := [(4, .int r1), (0, .ref fl_h), (1, .int x1), (2, .int x2), (3, .int x3)]) hx hb dX2_ask_7 hl (by decide) rfl (fun ls hl => ?_)
  refine lv_aload_n hx hb dX2_ask_9 rfl (lv_at hl 1 rfl) ?_
  refine va_get (D := D) (ci := 2) (v := .ref (fl_ad 8)) (C := RX2) (T := TX2) (N := 15) hx hb hts mi_X2_ask_X2 hown hK hP 0 rfl rfl 8 (by decide) (hts (.fieldLink RX2 27 "HiringHall$Floor" "notes" "[I") (List.mem_of_getElem? (i := 1) rfl)) (fun _ h9 => h9) rfl dX2_ask_10 ?_
  refine lv_iload_n hx hb dX2_ask_13 rfl (lv_at hl 2 rfl) ?_
  refine lv_bipush (v := 16) hx hb dX2_ask_14 (by decide) ?_
  refine lv_imul hx hb dX2_ask_16 ?_
  refine lv_iload_n hx hb dX2_ask_17 rfl (lv_at hl 3 rfl) ?_
  refine lv_iadd hx hb dX2_ask_18 ?_
  refine lv_aload_n hx hb dX2_ask_19 rfl (lv_at hl 1 rfl) ?_
  refine va_get (D := D) (ci := 2) (v := .int fl_clock) (C := RX2) (T := TX2) (N := 15) hx hb hts mi_X2_ask_X2 hown hK hP 0 rfl rfl 12 (by decide) (hts (.fieldLink RX2 110 "HiringHall$Floor" "clock" "I") (List.mem_of_getElem? (i := 2) rfl)) (fun _ h9 => h9) rfl dX2_ask_20 ?_
  refine lv_bipush (v := 8) hx hb dX2_ask_23 (by decide) ?_
  refine lv_imul hx hb dX2_ask_25 ?_
  refine lv_iload hx hb dX2_ask_26 (lv_at hl 0 rfl) ?_
  refine lv_iadd hx hb dX2_ask_28 ?_
  refine lv_topi (fun y2 e_y2 => ?_)
  have h := h y2 e_y2
  obtain ⟨hi_3, h⟩ := h
  refine va_iast hx hb hK hP hD hS 6 0 rfl rfl hi_3 dX2_ask_29 (fun H locs hP hD hS => ?_)
  have hP : va_P D vwCl ((wo_X2 cI cZ fl_h fl_ad ru_h cr_h ca_h fl_lists fl_listSize fl_job fl_jobLast fl_refusals (upd fl_notes (((x1 * 16) + x2).toNatClampNeg) y2) fl_laws fl_line fl_lineSize fl_clock fl_callsDone fl_sentInAll) ++ ((wo_X4 cI cZ ru_h ru_ad ru_from ru_voted ru_undone ru_says ru_texts ru_lines) ++ ((wo_X1 cI cZ cr_h cr_ad cr_book cr_signed cr_size cr_latestPaper cr_paperBefore cr_paperLast cr_paperTold cr_papers cr_minutesHere cr_heres) ++ (wo_X0 cI cZ ca_h ca_ad ca_skill ca_days ca_wanted ca_named ca_minute ca_day ca_refusers ca_order ca_size)))) H := hP
  have hD : va_D A ((wo_X2 cI cZ fl_h fl_ad ru_h cr_h ca_h fl_lists fl_listSize fl_job fl_jobLast fl_refusals (upd fl_notes (((x1 * 16) + x2).toNatClampNeg) y2) fl_laws fl_line fl_lineSize fl_clock fl_callsDone fl_sentInAll) ++ ((wo_X4 cI cZ ru_h ru_ad ru_from ru_voted ru_undone ru_says ru_texts ru_lines) ++ ((wo_X1 cI cZ cr_h cr_ad cr_book cr_signed cr_size cr_latestPaper cr_paperBefore cr_paperLast cr_paperTold cr_papers cr_minutesHere cr_heres) ++ (wo_X0 cI cZ ca_h ca_ad ca_skill ca_days ca_wanted ca_named ca_minute ca_day ca_refusers ca_order ca_size)))) := hD
  refine lv_iload hx hb dX2_ask_30 (lv_at hl 0 rfl) ?_
  refine lv_iconst (v := 4) hx hb dX2_ask_32 (by decide) ?_
  refine lv_icmp_ne (tgt := 44) hx hb dX2_ask_33 (by decide) (fun c_4 => ?_) (fun c_4 => ?_)
  · have h := h.1 c_4
    refine lv_iload hx hb dX2_ask_44 (lv_at hl 0 rfl) ?_
    refine lv_iconst (v := 5) hx hb dX2_ask_46 (by decide) ?_
    refine lv_icmp_ne (tgt := 57) hx hb dX2_ask_47 (by decide) (fun c_5 => ?_) (fun c_5 => ?_)
    · have h := h.1 c_5
      refine lv_iload hx hb dX2_ask_57 (lv_at hl 0 rfl) ?_
      rw [hQ]
      exact W.iret (v := r1) hx hb hr (fun t ht hW => ⟨⟨r1, (fl_lists, fl_job, fl_jobLast, fl_refusals, (upd fl_notes (((x1 * 16) + x2).toNatClampNeg) y2), fl_clock, fl_sentInAll), rfl, h, by rw [ht]; exact hP, va_K.moved hW.alike hK, hD⟩, hS.F ht⟩) hS.2.2 dX2_ask_59
    · have h := h.2 c_5
      refine lv_aload_n hx hb dX2_ask_50 rfl (lv_at hl 1 rfl) ?_
      refine lv_iload_n hx hb dX2_ask_51 rfl (lv_at hl 2 rfl) ?_
      refine lv_iload_n hx hb dX2_ask_52 rfl (lv_at hl 3 rfl) ?_
      refine lv_iload_n hx hb dX2_ask_53 rfl (lv_at hl 4 rfl) ?_
      have hP : va_P D vwCl ((fun v => v) ((wo_X2 cI cZ fl_h fl_ad ru_h cr_h ca_h fl_lists fl_listSize fl_job fl_jobLast fl_refusals (upd fl_notes (((x1 * 16) + x2).toNatClampNeg) y2) fl_laws fl_line fl_lineSize fl_clock fl_callsDone fl_sentInAll) ++ ((wo_X4 cI cZ ru_h ru_ad ru_from ru_voted ru_undone ru_says ru_texts ru_lines) ++ ((wo_X1 cI cZ cr_h cr_ad cr_book cr_signed cr_size cr_latestPaper cr_paperBefore cr_paperLast cr_paperTold cr_papers cr_minutesHere cr_heres) ++ (wo_X0 cI cZ ca_h ca_ad ca_skill ca_days ca_wanted ca_named ca_minute ca_day ca_refusers ca_order ca_size))))) H := hP
      have hD : va_D A ((fun v => v) ((wo_X2 cI cZ fl_h fl_ad ru_h cr_h ca_h fl_lists fl_listSize fl_job fl_jobLast fl_refusals (upd fl_notes (((x1 * 16) + x2).toNatClampNeg) y2) fl_laws fl_line fl_lineSize fl_clock fl_callsDone fl_sentInAll) ++ ((wo_X4 cI cZ ru_h ru_ad ru_from ru_voted ru_undone ru_says ru_texts ru_lines) ++ ((wo_X1 cI cZ cr_h cr_ad cr_book cr_signed cr_size cr_latestPaper cr_paperBefore cr_paperLast cr_paperTold cr_papers cr_minutesHere cr_heres) ++ (wo_X0 cI cZ ca_h ca_ad ca_skill ca_days ca_wanted ca_named ca_minute ca_day ca_refusers ca_order ca_size))))) := hD
      refine mk_cv (f := fun v => v) mk_fr_id (va_runV (As := [.int x1, .int x2, .int x3]) (rest := []) ⟨hx, hb, hml, hown, hts⟩ (c_X2_send l D cI cZ E fl_h fl_ad ru_h ru_ad cr_h cr_ad ca_h ca_ad fl_lists fl_listSize fl_job fl_jobLast fl_refusals (upd fl_notes (((x1 * 16) + x2).toNatClampNeg) y2) fl_laws fl_line fl_lineSize fl_clock fl_callsDone fl_sentInAll ru_from ru_voted ru_undone ru_says ru_texts ru_lines cr_book cr_signed cr_size cr_latestPaper cr_paperBefore cr_paperLast cr_paperTold cr_papers cr_minutesHere cr_heres ca_skill ca_days ca_wanted ca_named ca_minute ca_day ca_refusers ca_order ca_size x1 x2 x3 _ h H.size) (cwV 3 hts gX2_ask_X2_send rfl rfl rfl (by decide +kernel) ⟨Nat.le_of_ble_eq_true rfl, Nat.le_of_ble_eq_true rfl⟩) (mk_preV (ci := 2) mk_fr_id hK hN hE hS hA hP hD rfl rfl) rfl rfl hl.1 rfl (lv_room (Nat.le_of_ble_eq_true rfl)) dX2_ask_54 ⟨Nat.le_of_ble_eq_true rfl, Nat.le_of_ble_eq_true rfl⟩) hP hD hS hA (fun u H locs h hP hD hS => ?_)
      obtain ⟨a6, a7, a8, y9⟩ := u
      try dsimp only at h
      have hP : va_P D vwCl ((wo_X2 cI cZ fl_h fl_ad ru_h cr_h ca_h fl_lists fl_listSize a6 a7 a8 (upd fl_notes (((x1 * 16) + x2).toNatClampNeg) y2) fl_laws fl_line fl_lineSize fl_clock fl_callsDone y9) ++ ((wo_X4 cI cZ ru_h ru_ad ru_from ru_voted ru_undone ru_says ru_texts ru_lines) ++ ((wo_X1 cI cZ cr_h cr_ad cr_book cr_signed cr_size cr_latestPaper cr_paperBefore cr_paperLast cr_paperTold cr_papers cr_minutesHere cr_heres) ++ (wo_X0 cI cZ ca_h ca_ad ca_skill ca_days ca_wanted ca_named ca_minute ca_day ca_refusers ca_order ca_size)))) H := hP
      have hD : va_D A ((wo_X2 cI cZ fl_h fl_ad ru_h cr_h ca_h fl_lists fl_listSize a6 a7 a8 (upd fl_notes (((x1 * 16) + x2).toNatClampNeg) y2) fl_laws fl_line fl_lineSize fl_clock fl_callsDone y9) ++ ((wo_X4 cI cZ ru_h ru_ad ru_from ru_voted ru_undone ru_says ru_texts ru_lines) ++ ((wo_X1 cI cZ cr_h cr_ad cr_book cr_signed cr_size cr_latestPaper cr_paperBefore cr_paperLast cr_paperTold cr_papers cr_minutesHere cr_heres) ++ (wo_X0 cI cZ ca_h ca_ad ca_skill ca_days ca_wanted ca_named ca_minute ca_day ca_refusers ca_order ca_size)))) := hD
      refine lv_iload hx hb dX2_ask_57 (lv_at hl 0 rfl) ?_
      rw [hQ]
      exact W.iret (v := r1) hx hb hr (fun t ht hW => ⟨⟨r1, (fl_lists, a6, a7, a8, (upd fl_notes (((x1 * 16) + x2).toNatClampNeg) y2), fl_clock, y9), rfl, h, by rw [ht]; exact hP, va_K.moved hW.alike hK, hD⟩, hS.F ht⟩) hS.2.2 dX2_ask_59
  · have h := h.2 c_4
    refine lv_aload_n hx hb dX2_ask_36 rfl (lv_at hl 1 rfl) ?_
    refine lv_iload_n hx hb dX2_ask_37 rfl (lv_at hl 3 rfl) ?_
    have hP : va_P D vwCl ((fun v => v) ((wo_X2 cI cZ fl_h fl_ad ru_h cr_h ca_h fl_lists fl_listSize fl_job fl_jobLast fl_refusals (upd fl_notes (((x1 * 16) + x2).toNatClampNeg) y2) fl_laws fl_line fl_lineSize fl_clock fl_callsDone fl_sentInAll) ++ ((wo_X4 cI cZ ru_h ru_ad ru_from ru_voted ru_undone ru_says ru_texts ru_lines) ++ ((wo_X1 cI cZ cr_h cr_ad cr_book cr_signed cr_size cr_latestPaper cr_paperBefore cr_paperLast cr_paperTold cr_papers cr_minutesHere cr_heres) ++ (wo_X0 cI cZ ca_h ca_ad ca_skill ca_days ca_wanted ca_named ca_minute ca_day ca_refusers ca_order ca_size))))) H := hP
    have hD : va_D A ((fun v => v) ((wo_X2 cI cZ fl_h fl_ad ru_h cr_h ca_h fl_lists fl_listSize fl_job fl_jobLast fl_refusals (upd fl_notes (((x1 * 16) + x2).toNatClampNeg) y2) fl_laws fl_line fl_lineSize fl_clock fl_callsDone fl_sentInAll) ++ ((wo_X4 cI cZ ru_h ru_ad ru_from ru_voted ru_undone ru_says ru_texts ru_lines) ++ ((wo_X1 cI cZ cr_h cr_ad cr_book cr_signed cr_size cr_latestPaper cr_paperBefore cr_paperLast cr_paperTold cr_papers cr_minutesHere cr_heres) ++ (wo_X0 cI cZ ca_h ca_ad ca_skill ca_days ca_wanted ca_named ca_minute ca_day ca_refusers ca_order ca_size))))) := hD
    refine mk_cv (f := fun v => v) mk_fr_id (va_runV (As := [.int x2]) (rest := []) ⟨hx, hb, hml, hown, hts⟩ (c_X2_takeRefusal l D cI cZ E fl_h fl_ad ru_h ru_ad cr_h cr_ad ca_h ca_ad fl_lists fl_listSize fl_job fl_jobLast fl_refusals (upd fl_notes (((x1 * 16) + x2).toNatClampNeg) y2) fl_laws fl_line fl_lineSize fl_clock fl_callsDone fl_sentInAll ru_from ru_voted ru_undone ru_says ru_texts ru_lines cr_book cr_signed cr_size cr_latestPaper cr_paperBefore cr_paperLast cr_paperTold cr_papers cr_minutesHere cr_heres ca_skill ca_days ca_wanted ca_named ca_minute ca_day ca_refusers ca_order ca_size x2 _ h H.size) (cwV 1 hts gX2_ask_X2_takeRefusal rfl rfl rfl (by decide +kernel) ⟨Nat.le_of_ble_eq_true rfl, Nat.le_of_ble_eq_true rfl⟩) (mk_preV (ci := 2) mk_fr_id hK hN hE hS hA hP hD rfl rfl) rfl rfl hl.1 rfl (lv_room (Nat.le_of_ble_eq_true rfl)) dX2_ask_38 ⟨Nat.le_of_ble_eq_true rfl, Nat.le_of_ble_eq_true rfl⟩) hP hD hS hA (fun u H locs h hP hD hS => ?_)
    obtain ⟨a10, a11, y12⟩ := u
    try dsimp only at h
    have hP : va_P D vwCl ((wo_X2 cI cZ fl_h fl_ad ru_h cr_h ca_h a10 fl_listSize fl_job fl_jobLast a11 (upd fl_notes (((x1 * 16) + x2).toNatClampNeg) y2) fl_laws fl_line fl_lineSize y12 fl_callsDone fl_sentInAll) ++ ((wo_X4 cI cZ ru_h ru_ad ru_from ru_voted ru_undone ru_says ru_texts ru_lines) ++ ((wo_X1 cI cZ cr_h cr_ad cr_book cr_signed cr_size cr_latestPaper cr_paperBefore cr_paperLast cr_paperTold cr_papers cr_minutesHere cr_heres) ++ (wo_X0 cI cZ ca_h ca_ad ca_skill ca_days ca_wanted ca_named ca_minute ca_day ca_refusers ca_order ca_size)))) H := hP
    have hD : va_D A ((wo_X2 cI cZ fl_h fl_ad ru_h cr_h ca_h a10 fl_listSize fl_job fl_jobLast a11 (upd fl_notes (((x1 * 16) + x2).toNatClampNeg) y2) fl_laws fl_line fl_lineSize y12 fl_callsDone fl_sentInAll) ++ ((wo_X4 cI cZ ru_h ru_ad ru_from ru_voted ru_undone ru_says ru_texts ru_lines) ++ ((wo_X1 cI cZ cr_h cr_ad cr_book cr_signed cr_size cr_latestPaper cr_paperBefore cr_paperLast cr_paperTold cr_papers cr_minutesHere cr_heres) ++ (wo_X0 cI cZ ca_h ca_ad ca_skill ca_days ca_wanted ca_named ca_minute ca_day ca_refusers ca_order ca_size)))) := hD
    refine lv_goto (tgt := 57) hx hb dX2_ask_41 (by decide) ?_
    refine lv_iload hx hb dX2_ask_57 (lv_at hl 0 rfl) ?_
    rw [hQ]
    exact W.iret (v := r1) hx hb hr (fun t ht hW => ⟨⟨r1, (a10, fl_job, fl_jobLast, a11, (upd fl_notes (((x1 * 16) + x2).toNatClampNeg) y2), y12, fl_sentInAll), rfl, h, by rw [ht]; exact hP, va_K.moved hW.alike hK, hD⟩, hS.F ht⟩) hS.2.2 dX2_ask_59
def rm_X2_workCall : Room := { frames := 3, cells := 0, slots := 0, locals := 72 }
theorem mi_X2_workCall_X0 : ∀ w ∈ wsX00, w ∈ wsX2_workCall := fun _ h => List.mem_cons_of_mem _ (List.mem_append_right _ h)
theorem mi_X2_workCall_X1 : ∀ w ∈ wsX10, w ∈ wsX2_workCall := fun _ h => List.mem_cons_of_mem _ (List.mem_append_left _ (List.mem_append_right _ h))
theorem mi_X2_workCall_X2 : ∀ w ∈ wsX20, w ∈ wsX2_workCall := fun _ h => List.mem_cons_of_mem _ (List.mem_append_left _ (List.mem_append_left _ (List.mem_append_right _ h)))
set_option maxHeartbeats 4000000 in
set_option maxRecDepth 100000 in
theorem c_X2_workCall (l : Launch) (D : va_G) (cI cZ : ClassId) (E : (Nat → Nat) × (Nat → Nat)) (fl_h : Nat) (fl_ad : Nat → Nat) (ru_h : Nat) (ru_ad : Nat → Nat) (cr_h : Nat) (cr_ad : Nat → Nat) (ca_h : Nat) (ca_ad : Nat → Nat) (fl_lists : (Nat → Int32)) (fl_listSize : (Nat → Int32)) (fl_job : (Nat → Int32)) (fl_jobLast : (Nat → Int32)) (fl_refusals : (Nat → Int32)) (fl_notes : (Nat → Int32)) (fl_laws : (Nat → Int32)) (fl_line : (Nat → Int32)) (fl_lineSize : Int32) (fl_clock : Int32) (fl_callsDone : Int32) (fl_sentInAll : Int32) (ru_from : (Nat → Int32)) (ru_voted : (Nat → Int32)) (ru_undone : (Nat → Int32)) (ru_says : (Nat → Int32)) (ru_texts : Int32) (ru_lines : Int32) (cr_book : (Nat → Int32)) (cr_signed : (Nat → Int32)) (cr_size : Int32) (cr_latestPaper : (Nat → Int32)) (cr_paperBefore : (Nat → Int32)) (cr_paperLast : (Nat → Int32)) (cr_paperTold : (Nat → Int32)) (cr_papers : Int32) (cr_minutesHere : (Nat → Int32)) (cr_heres : Int32) (ca_skill : (Nat → Int32)) (ca_days : (Nat → Int32)) (ca_wanted : (Nat → Int32)) (ca_named : (Nat → Int32)) (ca_minute : (Nat → Int32)) (ca_day : (Nat → Int32)) (ca_refusers : (Nat → Int32)) (ca_order : (Nat → Int32)) (ca_size : Int32) (x1 : Int32) (x2 : Int32) (K : ((Nat → Int32) → (Nat → Int32) → (Nat → Int32) → (Nat → Int32) → (Nat → Int32) → (Nat → Int32) → Int32 → Int32 → Int32 → Prop)) (h : wp_X2_workCall fl_lists fl_listSize fl_job fl_jobLast fl_refusals fl_notes fl_laws fl_line fl_lineSize fl_clock fl_sentInAll cr_book cr_signed cr_size cr_latestPaper cr_paperBefore cr_paperLast cr_paperTold cr_papers cr_minutesHere ca_skill ca_days ca_wanted ca_named ca_minute ca_refusers x1 x2 K) : mk_Cv l D cI cZ E yX2_workCall wsX2_workCall rm_X2_workCall ([.ref fl_h, .int x1, .int x2] : List Value) ((wo_X2 cI cZ fl_h fl_ad ru_h cr_h ca_h fl_lists fl_listSize fl_job fl_jobLast fl_refusals fl_notes fl_laws fl_line fl_lineSize fl_clock fl_callsDone fl_sentInAll) ++ ((wo_X4 cI cZ ru_h ru_ad ru_from ru_voted ru_undone ru_says ru_texts ru_lines) ++ ((wo_X1 cI cZ cr_h cr_ad cr_book cr_signed cr_size cr_latestPaper cr_paperBefore cr_paperLast cr_paperTold cr_papers cr_minutesHere cr_heres) ++ (wo_X0 cI cZ ca_h ca_ad ca_skill ca_days ca_wanted ca_named ca_minute ca_day ca_refusers ca_order ca_size)))) (fun (u : (Nat → Int32) × (Nat → Int32) × (Nat → Int32) × (Nat → Int32) × (Nat → Int32) × (Nat → Int32) × Int32 × Int32 × Int32) => ((wo_X2 cI cZ fl_h fl_ad ru_h cr_h ca_h u.1 fl_listSize u.2.1 u.2.2.1 u.2.2.2.1 u.2.2.2.2.1 fl_laws u.2.2.2.2.2.1 u.2.2.2.2.2.2.1 u.2.2.2.2.2.2.2.1 fl_callsDone u.2.2.2.2.2.2.2.2) ++ ((wo_X4 cI cZ ru_h ru_ad ru_from ru_voted ru_undone ru_says ru_texts ru_lines) ++ ((wo_X1 cI cZ cr_h cr_ad cr_book cr_signed cr_size cr_latestPaper cr_paperBefore cr_paperLast cr_paperTold cr_papers cr_minutesHere cr_heres) ++ (wo_X0 cI cZ ca_h ca_ad ca_skill ca_days ca_wanted ca_named ca_minute ca_day ca_refusers ca_order ca_size))))) (fun (u : (Nat → Int32) × (Nat → Int32) × (Nat → Int32) × (Nat → Int32) × (Nat → Int32) × (Nat → Int32) × Int32 × Int32 × Int32) => K u.1 u.2.1 u.2.2.1 u.2.2.2.1 u.2.2.2.2.1 u.2.2.2.2.2.1 u.2.2.2.2.2.2.1 u.2.2.2.2.2.2.2.1 u.2.2.2.2.2.2.2.2) := by
  intro sz
  refine Met.ofW (cc := cX2_workCall) (maxL := 5) (ret := none) (by decide) rfl ?_
  intro p e s m args below meth c s₁ B hml hv
  obtain ⟨rfl, hsz, hP, hK, hD0, hN, hE⟩ := hv
  have hx := B.exec
  have hb := B.bytes
  have hr := B.returns
  have hts := atoms_spec (ws := wsX2_workCall) B.pre
  have hown : s.vm.findClass RX2 = some m.cls := findClass_of_methodNamed B.named
  have hlocks := B.notSynchronized
  subst hsz
  have hD := hD0.self (sz := s.heap.size)
  generalize hAe : va_A ((wo_X2 cI cZ fl_h fl_ad ru_h cr_h ca_h fl_lists fl_listSize fl_job fl_jobLast fl_refusals fl_notes fl_laws fl_line fl_lineSize fl_clock fl_callsDone fl_sentInAll) ++ ((wo_X4 cI cZ ru_h ru_ad ru_from ru_voted ru_undone ru_says ru_texts ru_lines) ++ ((wo_X1 cI cZ cr_h cr_ad cr_book cr_signed cr_size cr_latestPaper cr_paperBefore cr_paperLast cr_paperTold cr_papers cr_minutesHere cr_heres) ++ (wo_X0 cI cZ ca_h ca_ad ca_skill ca_days ca_wanted ca_named ca_minute ca_day ca_refusers ca_order ca_size)))) s.heap.size = A at hD hE ⊢
  have hA : ∀ q : Nat, s.heap.size ≤ q → A q := fun q h => by rw [← hAe]; exact Or.inr h
  have hl := lv_entry ([.ref fl_h, .int x1, .int x2] : List Value) (n := 5) (Nat.le_of_ble_eq_true rfl)
  rw [lg_entry_eq]
  generalize (lg_sl ([.ref fl_h, .int x1, .int x2] : List Value) ++ List.replicate (5 - (lg_sl ([.ref fl_h, .int x1, .int x2] : List Value)).length) Slot.unset).toArray = ls at hl ⊢
  have hl : lv_has ls 5 [(0, .ref fl_h), (1, .int x1), (2, .int x2)] := hl
  refine mk_absQ (P := fun Q => W p l e _ s m _ below meth c s.heap [] 0 0 Q _) (fun Q hQ => ?_)
  refine mk_absH (P := fun H => W p l e _ s m _ below meth c H [] 0 0 Q _) (fun H hH => ?_)
  have hP : va_P D vwCl ((wo_X2 cI cZ fl_h fl_ad ru_h cr_h ca_h fl_lists fl_listSize fl_job fl_jobLast fl_refusals fl_notes fl_laws fl_line fl_lineSize fl_clock fl_callsDone fl_sentInAll) ++ ((wo_X4 cI cZ ru_h ru_ad ru_from ru_voted ru_undone ru_says ru_texts ru_lines) ++ ((wo_X1 cI cZ cr_h cr_ad cr_book cr_signed cr_size cr_latestPaper cr_paperBefore cr_paperLast cr_paperTold cr_papers cr_minutesHere cr_heres) ++ (wo_X0 cI cZ ca_h ca_ad ca_skill ca_days ca_wanted ca_named ca_minute ca_day ca_refusers ca_order ca_size)))) H := by rw [hH]; exact hP
  have hS : va_S A s.heap H [] := by rw [hH]; exact va_S.rf
  have b76 : ∀ (n : Nat), ∀ (fl_lists : (Nat → Int32)) (fl_job : (Nat → Int32)) (fl_jobLast : (Nat → Int32)) (fl_refusals : (Nat → Int32)) (fl_notes : (Nat → Int32)) (fl_line : (Nat → Int32)) (fl_lineSize : Int32) (fl_clock : Int32) (fl_sentInAll : Int32) (x3 : Int32) (x4 : Int32), wp_X2_workCall_b76 K fl_listSize fl_laws cr_book cr_latestPaper cr_paperBefore cr_paperLast cr_paperTold cr_papers cr_minutesHere ca_skill ca_days ca_refusers x1 x2 n fl_lists fl_job fl_jobLast fl_refusals fl_notes fl_line fl_lineSize fl_clock fl_sentInAll x3 x4 → ∀ (H : Heap) (locs : List Loc) (ls : Array Slot), va_P D vwCl ((wo_X2 cI cZ fl_h fl_ad ru_h cr_h ca_h fl_lists fl_listSize fl_job fl_jobLast fl_refusals fl_notes fl_laws fl_line fl_lineSize fl_clock fl_callsDone fl_sentInAll) ++ ((wo_X4 cI cZ ru_h ru_ad ru_from ru_voted ru_undone ru_says ru_texts ru_lines) ++ ((wo_X1 cI cZ cr_h cr_ad cr_book cr_signed cr_size cr_latestPaper cr_paperBefore cr_paperLast cr_paperTold cr_papers cr_minutesHere cr_heres) ++ (wo_X0 cI cZ ca_h ca_ad ca_skill ca_days ca_wanted ca_named ca_minute ca_day ca_refusers ca_order ca_size)))) H → va_D A ((wo_X2 cI cZ fl_h fl_ad ru_h cr_h ca_h fl_lists fl_listSize fl_job fl_jobLast fl_refusals fl_notes fl_laws fl_line fl_lineSize fl_clock fl_callsDone fl_sentInAll) ++ ((wo_X4 cI cZ ru_h ru_ad ru_from ru_voted ru_undone ru_says ru_texts ru_lines) ++ ((wo_X1 cI cZ cr_h cr_ad cr_book cr_signed cr_size cr_latestPaper cr_paperBefore cr_paperLast cr_paperTold cr_papers cr_minutesHere cr_heres) ++ (wo_X0 cI cZ ca_h ca_ad ca_skill ca_days ca_wanted ca_named ca_minute ca_day ca_refusers ca_order ca_size)))) → va_S A s.heap H locs → lv_has ls 5 [(0, .ref fl_h), (1, .int x1), (2, .int x2), (3, .int x3), (4, .int x4)] → W p l e (headSpec wsX2_workCall rm_X2_workCall).room s m ([.ref fl_h, .int x1, .int x2] : List Value).toArray below meth c H locs 0 0 Q (F0 m 76 ls []) := by
    intro n
    induction n with
    | zero => intro fl_lists fl_job fl_jobLast fl_refusals fl_notes fl_line fl_lineSize fl_clock fl_sentInAll x3 x4 h; exact False.elim h
    | succ n ih =>
      intro fl_lists fl_job fl_jobLast fl_refusals fl_notes fl_line fl_lineSize fl_clock fl_sentInAll x3 x4 h H locs ls hP hD hS hl
      refine lv_iload hx hb dX2_workCall_76 (lv_at hl 4 rfl) ?_
      refine lv_aload_n hx hb dX2_workCall_78 rfl (lv_at hl 0 rfl) ?_
      refine va_get (D := D) (ci := 2) (v := .int fl_lineSize) (C := RX2) (T := TX2) (N := 15) hx hb hts mi_X2_workCall_X2 hown hK hP 0 rfl rfl 11 (by decide) (hts (.fieldLink RX2 116 "HiringHall$Floor" "lineSize" "I") (List.mem_of_getElem? (i := 5) rfl)) (fun _ h9 => h9) rfl dX2_workCall_79 ?_
      refine lv_icmp_ge (tgt := 115) hx hb dX2_workCall_82 (by decide) (fun c_1 => ?_) (fun c_1 => ?_)
      · have h := h.1 c_1
        rw [hQ]
        exact W.vret hx hb hr (fun t ht hW => ⟨⟨(fl_lists, fl_job, fl_jobLast, fl_refusals, fl_notes, fl_line, fl_lineSize, fl_clock, fl_sentInAll), rfl, h, by rw [ht]; exact hP, va_K.moved hW.alike hK, hD⟩, hS.F ht⟩) hS.2.2 dX2_workCall_115
      · have h := h.2 c_1
        refine lv_iload_n hx hb dX2_workCall_85 rfl (lv_at hl 3 rfl) ?_
        refine lv_if_le (tgt := 115) hx hb dX2_workCall_86 (by decide) (fun c_2 => ?_) (fun c_2 => ?_)
        · have h := h.1 c_2
          rw [hQ]
          exact W.vret hx hb hr (fun t ht hW => ⟨⟨(fl_lists, fl_job, fl_jobLast, fl_refusals, fl_notes, fl_line, fl_lineSize, fl_clock, fl_sentInAll), rfl, h, by rw [ht]; exact hP, va_K.moved hW.alike hK, hD⟩, hS.F ht⟩) hS.2.2 dX2_workCall_115
        · have h := h.2 c_2
          refine lv_aload_n hx hb dX2_workCall_89 rfl (lv_at hl 0 rfl) ?_
          refine lv_iload_n hx hb dX2_workCall_90 rfl (lv_at hl 1 rfl) ?_
          refine lv_aload_n hx hb dX2_workCall_91 rfl (lv_at hl 0 rfl) ?_
          refine va_get (D := D) (ci := 2) (v := .ref (fl_ad 10)) (C := RX2) (T := TX2) (N := 15) hx hb hts mi_X2_workCall_X2 hown hK hP 0 rfl rfl 10 (by decide) (hts (.fieldLink RX2 33 "HiringHall$Floor" "line" "[I") (List.mem_of_getElem? (i := 6) rfl)) (fun _ h9 => h9) rfl dX2_workCall_92 ?_
          refine lv_iload hx hb dX2_workCall_95 (lv_at hl 4 rfl) ?_
          obtain ⟨hi_3, h⟩ := h
          refine va_iald hx hb hK hP 8 0 rfl rfl hi_3 dX2_workCall_97 ?_
          refine lv_iload_n hx hb dX2_workCall_98 rfl (lv_at hl 2 rfl) ?_
          have hP : va_P D vwCl ((fun v => v) ((wo_X2 cI cZ fl_h fl_ad ru_h cr_h ca_h fl_lists fl_listSize fl_job fl_jobLast fl_refusals fl_notes fl_laws fl_line fl_lineSize fl_clock fl_callsDone fl_sentInAll) ++ ((wo_X4 cI cZ ru_h ru_ad ru_from ru_voted ru_undone ru_says ru_texts ru_lines) ++ ((wo_X1 cI cZ cr_h cr_ad cr_book cr_signed cr_size cr_latestPaper cr_paperBefore cr_paperLast cr_paperTold cr_papers cr_minutesHere cr_heres) ++ (wo_X0 cI cZ ca_h ca_ad ca_skill ca_days ca_wanted ca_named ca_minute ca_day ca_refusers ca_order ca_size))))) H := hP
          have hD : va_D A ((fun v => v) ((wo_X2 cI cZ fl_h fl_ad ru_h cr_h ca_h fl_lists fl_listSize fl_job fl_jobLast fl_refusals fl_notes fl_laws fl_line fl_lineSize fl_clock fl_callsDone fl_sentInAll) ++ ((wo_X4 cI cZ ru_h ru_ad ru_from ru_voted ru_undone ru_says ru_texts ru_lines) ++ ((wo_X1 cI cZ cr_h cr_ad cr_book cr_signed cr_size cr_latestPaper cr_paperBefore cr_paperLast cr_paperTold cr_papers cr_minutesHere cr_heres) ++ (wo_X0 cI cZ ca_h ca_ad ca_skill ca_days ca_wanted ca_named ca_minute ca_day ca_refusers ca_order ca_size))))) := hD
          refine mk_ci (f := fun v => v) mk_fr_id (va_runV (As := [.int x1, .int (fl_line (x4.toNatClampNeg)), .int x2]) (rest := []) ⟨hx, hb, hml, hown, hts⟩ (c_X2_ask l D cI cZ E fl_h fl_ad ru_h ru_ad cr_h cr_ad ca_h ca_ad fl_lists fl_listSize fl_job fl_jobLast fl_refusals fl_notes fl_laws fl_line fl_lineSize fl_clock fl_callsDone fl_sentInAll ru_from ru_voted ru_undone ru_says ru_texts ru_lines cr_book cr_signed cr_size cr_latestPaper cr_paperBefore cr_paperLast cr_paperTold cr_papers cr_minutesHere cr_heres ca_skill ca_days ca_wanted ca_named ca_minute ca_day ca_refusers ca_order ca_size x1 (fl_line (x4.toNatClampNeg)) x2 _ h H.size) (cwV 3 hts gX2_workCall_X2_ask rfl rfl rfl (by decide +kernel) ⟨Nat.le_of_ble_eq_true rfl, Nat.le_of_ble_eq_true rfl⟩) (mk_preV (ci := 2) mk_fr_id hK hN hE hS hA hP hD rfl rfl) rfl rfl hl.1 rfl (lv_room (Nat.le_of_ble_eq_true rfl)) dX2_workCall_99 ⟨Nat.le_of_ble_eq_true rfl, Nat.le_of_ble_eq_true rfl⟩) hP hD hS hA (fun r4 u H locs h hP hD hS => ?_)
          obtain ⟨a5, a6, a7, a8, a9, y10, y11⟩ := u
          try dsimp only at h
          have hP : va_P D vwCl ((wo_X2 cI cZ fl_h fl_ad ru_h cr_h ca_h a5 fl_listSize a6 a7 a8 a9 fl_laws fl_line fl_lineSize y10 fl_callsDone y11) ++ ((wo_X4 cI cZ ru_h ru_ad ru_from ru_voted ru_undone ru_says ru_texts ru_lines) ++ ((wo_X1 cI cZ cr_h cr_ad cr_book cr_signed cr_size cr_latestPaper cr_paperBefore cr_paperLast cr_paperTold cr_papers cr_minutesHere cr_heres) ++ (wo_X0 cI cZ ca_h ca_ad ca_skill ca_days ca_wanted ca_named ca_minute ca_day ca_refusers ca_order ca_size)))) H := hP
          have hD : va_D A ((wo_X2 cI cZ fl_h fl_ad ru_h cr_h ca_h a5 fl_listSize a6 a7 a8 a9 fl_laws fl_line fl_lineSize y10 fl_callsDone y11) ++ ((wo_X4 cI cZ ru_h ru_ad ru_from ru_voted ru_undone ru_says ru_texts ru_lines) ++ ((wo_X1 cI cZ cr_h cr_ad cr_book cr_signed cr_size cr_latestPaper cr_paperBefore cr_paperLast cr_paperTold cr_papers cr_minutesHere cr_heres) ++ (wo_X0 cI cZ ca_h ca_ad ca_skill ca_days ca_wanted ca_named ca_minute ca_day ca_refusers ca_order ca_size)))) := hD
          refine lv_iconst (v := 5) hx hb dX2_workCall_102 (by decide) ?_
          refine lv_icmp_ne (tgt := 109) hx hb dX2_workCall_103 (by decide) (fun c_12 => ?_) (fun c_12 => ?_)
          · have h := h.1 c_12
            obtain ⟨y13, e_y13⟩ : ∃ y : Int32, y = x4 + 1 := ⟨_, rfl⟩
            have h := h y13 e_y13
            refine lv_iinc (v := y13) (lv' := [(4, .int y13), (0, .ref fl_h), (1, .int x1), (2, .int x2), (3, .int x3)]) hx hb dX2_workCall_109 hl (k := 4) rfl (by rw [e_y13]; rfl) (by decide) rfl (fun ls hl => ?_)
            refine lv_goto (tgt := 76) hx hb dX2_workCall_112 (by decide) ?_
            exact ih a5 a6 a7 a8 a9 fl_line fl_lineSize y10 y11 x3 y13 h _ _ _ hP hD hS (lv_sub hl [1, 2, 3, 4, 0] rfl)
          · have h := h.2 c_12
            obtain ⟨y14, e_y14⟩ : ∃ y : Int32, y = x3 + (-1) := ⟨_, rfl⟩
            have h := h y14 e_y14
            refine lv_iinc (v := y14) (lv' := [(3, .int y14), (0, .ref fl_h), (1, .int x1), (2, .int x2), (4, .int x4)]) hx hb dX2_workCall_106 hl (k := 3) rfl (by rw [e_y14]; rfl) (by decide) rfl (fun ls hl => ?_)
            obtain ⟨y15, e_y15⟩ : ∃ y : Int32, y = x4 + 1 := ⟨_, rfl⟩
            have h := h y15 e_y15
            refine lv_iinc (v := y15) (lv' := [(4, .int y15), (3, .int y14), (0, .ref fl_h), (1, .int x1), (2, .int x2)]) hx hb dX2_workCall_109 hl (k := 4) rfl (by rw [e_y15]; rfl) (by decide) rfl (fun ls hl => ?_)
            refine lv_goto (tgt := 76) hx hb dX2_workCall_112 (by decide) ?_
            exact ih a5 a6 a7 a8 a9 fl_line fl_lineSize y10 y11 y14 y15 h _ _ _ hP hD hS (lv_sub hl [2, 3, 4, 1, 0] rfl)
  have b2 : ∀ (n : Nat), ∀ (fl_notes : (Nat → Int32)) (x3 : Int32), wp_X2_workCall_b2 K fl_lists fl_listSize fl_job fl_jobLast fl_refusals fl_laws fl_line fl_lineSize fl_sentInAll cr_book cr_signed cr_size cr_latestPaper cr_paperBefore cr_paperLast cr_paperTold cr_papers cr_minutesHere ca_skill ca_days ca_wanted ca_named ca_minute ca_refusers x1 x2 n fl_notes x3 → ∀ (H : Heap) (locs : List Loc) (ls : Array Slot), va_P D vwCl ((wo_X2 cI cZ fl_h fl_ad ru_h cr_h ca_h fl_lists fl_listSize fl_job fl_jobLast fl_refusals fl_notes fl_laws fl_line fl_lineSize fl_clock fl_callsDone fl_sentInAll) ++ ((wo_X4 cI cZ ru_h ru_ad ru_from ru_voted ru_undone ru_says ru_texts ru_lines) ++ ((wo_X1 cI cZ cr_h cr_ad cr_book cr_signed cr_size cr_latestPaper cr_paperBefore cr_paperLast cr_paperTold cr_papers cr_minutesHere cr_heres) ++ (wo_X0 cI cZ ca_h ca_ad ca_skill ca_days ca_wanted ca_named ca_minute ca_day ca_refusers ca_order ca_size)))) H → va_D A ((wo_X2 cI cZ fl_h fl_ad ru_h cr_h ca_h fl_lists fl_listSize fl_job fl_jobLast fl_refusals fl_notes fl_laws fl_line fl_lineSize fl_clock fl_callsDone fl_sentInAll) ++ ((wo_X4 cI cZ ru_h ru_ad ru_from ru_voted ru_undone ru_says ru_texts ru_lines) ++ ((wo_X1 cI cZ cr_h cr_ad cr_book cr_signed cr_size cr_latestPaper cr_paperBefore cr_paperLast cr_paperTold cr_papers cr_minutesHere cr_heres) ++ (wo_X0 cI cZ ca_h ca_ad ca_skill ca_days ca_wanted ca_named ca_minute ca_day ca_refusers ca_order ca_size)))) → va_S A s.heap H locs → lv_has ls 5 [(0, .ref fl_h), (1, .int x1), (2, .int x2), (3, .int x3)] → W p l e (headSpec wsX2_workCall rm_X2_workCall).room s m ([.ref fl_h, .int x1, .int x2] : List Value).toArray below meth c H locs 0 0 Q (F0 m 2 ls []) := by
    intro n
    induction n with
    | zero => intro fl_notes x3 h; exact False.elim h
    | succ n ih =>
      intro fl_notes x3 h H locs ls hP hD hS hl
      refine lv_iload_n hx hb dX2_workCall_2 rfl (lv_at hl 3 rfl) ?_
      refine lv_aload_n hx hb dX2_workCall_3 rfl (lv_at hl 0 rfl) ?_
      refine va_get (D := D) (ci := 2) (v := .ref cr_h) (C := RX2) (T := TX2) (N := 15) hx hb hts mi_X2_workCall_X2 hown hK hP 0 rfl rfl 1 (by decide) (hts (.fieldLink RX2 40 "HiringHall$Floor" "crew" "LHiringHall$Crew;") (List.mem_of_getElem? (i := 1) rfl)) (fun _ h9 => h9) rfl dX2_workCall_4 ?_
      refine va_getN (D := D) (ci := 1) (v := .int cr_size) (C := RX1) (T := TX1) (N := 10) hx hb hts mi_X2_workCall_X1 hown hK hP 14 rfl rfl 2 (by decide) (va_Nw.use rfl (hN.1 (RX2, 89, RX1, "size", "I", RX7) (List.mem_of_getElem? (i := 11) rfl))) (fun _ h9 => h9) rfl dX2_workCall_7 ?_
      refine lv_icmp_ge (tgt := 45) hx hb dX2_workCall_10 (by decide) (fun c_16 => ?_) (fun c_16 => ?_)
      · have h := h.1 c_16
        refine lv_aload_n hx hb dX2_workCall_45 rfl (lv_at hl 0 rfl) ?_
        refine lv_iload_n hx hb dX2_workCall_46 rfl (lv_at hl 1 rfl) ?_
        have hP : va_P D vwCl ((fun v => v) ((wo_X2 cI cZ fl_h fl_ad ru_h cr_h ca_h fl_lists fl_listSize fl_job fl_jobLast fl_refusals fl_notes fl_laws fl_line fl_lineSize fl_clock fl_callsDone fl_sentInAll) ++ ((wo_X4 cI cZ ru_h ru_ad ru_from ru_voted ru_undone ru_says ru_texts ru_lines) ++ ((wo_X1 cI cZ cr_h cr_ad cr_book cr_signed cr_size cr_latestPaper cr_paperBefore cr_paperLast cr_paperTold cr_papers cr_minutesHere cr_heres) ++ (wo_X0 cI cZ ca_h ca_ad ca_skill ca_days ca_wanted ca_named ca_minute ca_day ca_refusers ca_order ca_size))))) H := hP
        have hD : va_D A ((fun v => v) ((wo_X2 cI cZ fl_h fl_ad ru_h cr_h ca_h fl_lists fl_listSize fl_job fl_jobLast fl_refusals fl_notes fl_laws fl_line fl_lineSize fl_clock fl_callsDone fl_sentInAll) ++ ((wo_X4 cI cZ ru_h ru_ad ru_from ru_voted ru_undone ru_says ru_texts ru_lines) ++ ((wo_X1 cI cZ cr_h cr_ad cr_book cr_signed cr_size cr_latestPaper cr_paperBefore cr_paperLast cr_paperTold cr_papers cr_minutesHere cr_heres) ++ (wo_X0 cI cZ ca_h ca_ad ca_skill ca_days ca_wanted ca_named ca_minute ca_day ca_refusers ca_order ca_size))))) := hD
        refine mk_cv (f := fun v => v) mk_fr_id (va_runV (As := [.int x1]) (rest := []) ⟨hx, hb, hml, hown, hts⟩ (c_X2_lineUp l D cI cZ E fl_h fl_ad ru_h ru_ad cr_h cr_ad ca_h ca_ad fl_lists fl_listSize fl_job fl_jobLast fl_refusals fl_notes fl_laws fl_line fl_lineSize fl_clock fl_callsDone fl_sentInAll ru_from ru_voted ru_undone ru_says ru_texts ru_lines cr_book cr_signed cr_size cr_latestPaper cr_paperBefore cr_paperLast cr_paperTold cr_papers cr_minutesHere cr_heres ca_skill ca_days ca_wanted ca_named ca_minute ca_day ca_refusers ca_order ca_size x1 _ h H.size) (cwV 1 hts gX2_workCall_X2_lineUp rfl rfl rfl (by decide +kernel) ⟨Nat.le_of_ble_eq_true rfl, Nat.le_of_ble_eq_true rfl⟩) (mk_preV (ci := 2) mk_fr_id hK hN hE hS hA hP hD rfl rfl) rfl rfl hl.1 rfl (lv_room (Nat.le_of_ble_eq_true rfl)) dX2_workCall_47 ⟨Nat.le_of_ble_eq_true rfl, Nat.le_of_ble_eq_true rfl⟩) hP hD hS hA (fun u H locs h hP hD hS => ?_)
        obtain ⟨a17, y18⟩ := u
        try dsimp only at h
        have hP : va_P D vwCl ((wo_X2 cI cZ fl_h fl_ad ru_h cr_h ca_h fl_lists fl_listSize fl_job fl_jobLast fl_refusals fl_notes fl_laws a17 y18 fl_clock fl_callsDone fl_sentInAll) ++ ((wo_X4 cI cZ ru_h ru_ad ru_from ru_voted ru_undone ru_says ru_texts ru_lines) ++ ((wo_X1 cI cZ cr_h cr_ad cr_book cr_signed cr_size cr_latestPaper cr_paperBefore cr_paperLast cr_paperTold cr_papers cr_minutesHere cr_heres) ++ (wo_X0 cI cZ ca_h ca_ad ca_skill ca_days ca_wanted ca_named ca_minute ca_day ca_refusers ca_order ca_size)))) H := hP
        have hD : va_D A ((wo_X2 cI cZ fl_h fl_ad ru_h cr_h ca_h fl_lists fl_listSize fl_job fl_jobLast fl_refusals fl_notes fl_laws a17 y18 fl_clock fl_callsDone fl_sentInAll) ++ ((wo_X4 cI cZ ru_h ru_ad ru_from ru_voted ru_undone ru_says ru_texts ru_lines) ++ ((wo_X1 cI cZ cr_h cr_ad cr_book cr_signed cr_size cr_latestPaper cr_paperBefore cr_paperLast cr_paperTold cr_papers cr_minutesHere cr_heres) ++ (wo_X0 cI cZ ca_h ca_ad ca_skill ca_days ca_wanted ca_named ca_minute ca_day ca_refusers ca_order ca_size)))) := hD
        refine lv_aload_n hx hb dX2_workCall_50 rfl (lv_at hl 0 rfl) ?_
        refine lv_aload_n hx hb dX2_workCall_51 rfl (lv_at hl 0 rfl) ?_
        refine va_get (D := D) (ci := 2) (v := .ref ca_h) (C := RX2) (T := TX2) (N := 15) hx hb hts mi_X2_workCall_X2 hown hK hP 0 rfl rfl 2 (by decide) (hts (.fieldLink RX2 44 "HiringHall$Floor" "calls" "LHiringHall$Calls;") (List.mem_of_getElem? (i := 3) rfl)) (fun _ h9 => h9) rfl dX2_workCall_52 ?_
        refine va_getN (D := D) (ci := 0) (v := .ref (ca_ad 4)) (C := RX0) (T := TX0) (N := 9) hx hb hts mi_X2_workCall_X0 hown hK hP 22 rfl rfl 4 (by decide) (va_Nw.use rfl (hN.1 (RX2, 107, RX0, "minute", "[I", RX7) (List.mem_of_getElem? (i := 19) rfl))) (fun _ h9 => h9) rfl dX2_workCall_55 ?_
        refine lv_iload_n hx hb dX2_workCall_58 rfl (lv_at hl 1 rfl) ?_
        obtain ⟨hi_19, h⟩ := h
        refine va_iald hx hb hK hP 27 0 rfl rfl hi_19 dX2_workCall_59 ?_
        refine lv_topi (fun y20 e_y20 => ?_)
        have h := h y20 e_y20
        refine va_put (D := D) (ci := 2) (v := .int y20) (ty := .int) (C := RX2) (T := TX2) (N := 15) hx hb hts mi_X2_workCall_X2 tyX2 tyX2_ok nmX2 hown hK hP hD hS 0 rfl rfl 12 (by decide) (hts (.fieldLink RX2 110 "HiringHall$Floor" "clock" "I") (List.mem_of_getElem? (i := 4) rfl)) (fun _ h9 => h9) rfl (by decide +kernel) rfl rfl (Nat.le_of_ble_eq_true rfl) dX2_workCall_60 (fun H locs hP hD hS => ?_)
        have hP : va_P D vwCl ((wo_X2 cI cZ fl_h fl_ad ru_h cr_h ca_h fl_lists fl_listSize fl_job fl_jobLast fl_refusals fl_notes fl_laws a17 y18 y20 fl_callsDone fl_sentInAll) ++ ((wo_X4 cI cZ ru_h ru_ad ru_from ru_voted ru_undone ru_says ru_texts ru_lines) ++ ((wo_X1 cI cZ cr_h cr_ad cr_book cr_signed cr_size cr_latestPaper cr_paperBefore cr_paperLast cr_paperTold cr_papers cr_minutesHere cr_heres) ++ (wo_X0 cI cZ ca_h ca_ad ca_skill ca_days ca_wanted ca_named ca_minute ca_day ca_refusers ca_order ca_size)))) H := hP
        have hD : va_D A ((wo_X2 cI cZ fl_h fl_ad ru_h cr_h ca_h fl_lists fl_listSize fl_job fl_jobLast fl_refusals fl_notes fl_laws a17 y18 y20 fl_callsDone fl_sentInAll) ++ ((wo_X4 cI cZ ru_h ru_ad ru_from ru_voted ru_undone ru_says ru_texts ru_lines) ++ ((wo_X1 cI cZ cr_h cr_ad cr_book cr_signed cr_size cr_latestPaper cr_paperBefore cr_paperLast cr_paperTold cr_papers cr_minutesHere cr_heres) ++ (wo_X0 cI cZ ca_h ca_ad ca_skill ca_days ca_wanted ca_named ca_minute ca_day ca_refusers ca_order ca_size)))) := hD
        refine lv_aload_n hx hb dX2_workCall_63 rfl (lv_at hl 0 rfl) ?_
        refine va_get (D := D) (ci := 2) (v := .ref ca_h) (C := RX2) (T := TX2) (N := 15) hx hb hts mi_X2_workCall_X2 hown hK hP 0 rfl rfl 2 (by decide) (hts (.fieldLink RX2 44 "HiringHall$Floor" "calls" "LHiringHall$Calls;") (List.mem_of_getElem? (i := 3) rfl)) (fun _ h9 => h9) rfl dX2_workCall_64 ?_
        refine va_getN (D := D) (ci := 0) (v := .ref (ca_ad 2)) (C := RX0) (T := TX0) (N := 9) hx hb hts mi_X2_workCall_X0 hown hK hP 22 rfl rfl 2 (by decide) (va_Nw.use rfl (hN.1 (RX2, 113, RX0, "wanted", "[I", RX7) (List.mem_of_getElem? (i := 17) rfl))) (fun _ h9 => h9) rfl dX2_workCall_67 ?_
        refine lv_iload_n hx hb dX2_workCall_70 rfl (lv_at hl 1 rfl) ?_
        obtain ⟨hi_21, h⟩ := h
        refine va_iald hx hb hK hP 25 0 rfl rfl hi_21 dX2_workCall_71 ?_
        refine lv_topi (fun y22 e_y22 => ?_)
        have h := h y22 e_y22
        refine lv_istore_n (lv' := [(3, .int y22), (0, .ref fl_h), (1, .int x1), (2, .int x2)]) hx hb dX2_workCall_72 rfl hl (by decide) rfl (fun ls hl => ?_)
        refine lv_iconst (v := 0) hx hb dX2_workCall_73 (by decide) ?_
        refine lv_istore (lv' := [(4, .int 0), (3, .int y22), (0, .ref fl_h), (1, .int x1), (2, .int x2)]) hx hb dX2_workCall_74 hl (by decide) rfl (fun ls hl => ?_)
        obtain ⟨n, h⟩ := h
        exact b76  n fl_lists fl_job fl_jobLast fl_refusals fl_notes a17 y18 y20 fl_sentInAll y22 0 h _ _ _ hP hD hS (lv_sub hl [2, 3, 4, 1, 0] rfl)
      · have h := h.2 c_16
        refine lv_aload_n hx hb dX2_workCall_13 rfl (lv_at hl 0 rfl) ?_
        refine va_get (D := D) (ci := 2) (v := .ref cr_h) (C := RX2) (T := TX2) (N := 15) hx hb hts mi_X2_workCall_X2 hown hK hP 0 rfl rfl 1 (by decide) (hts (.fieldLink RX2 40 "HiringHall$Floor" "crew" "LHiringHall$Crew;") (List.mem_of_getElem? (i := 1) rfl)) (fun _ h9 => h9) rfl dX2_workCall_14 ?_
        refine va_getN (D := D) (ci := 1) (v := .ref (cr_ad 1)) (C := RX1) (T := TX1) (N := 10) hx hb hts mi_X2_workCall_X1 hown hK hP 14 rfl rfl 1 (by decide) (va_Nw.use rfl (hN.1 (RX2, 98, RX1, "signed", "[I", RX7) (List.mem_of_getElem? (i := 9) rfl))) (fun _ h9 => h9) rfl dX2_workCall_17 ?_
        refine lv_iload_n hx hb dX2_workCall_20 rfl (lv_at hl 3 rfl) ?_
        obtain ⟨hi_23, h⟩ := h
        refine va_iald hx hb hK hP 16 0 rfl rfl hi_23 dX2_workCall_21 ?_
        refine lv_iload_n hx hb dX2_workCall_22 rfl (lv_at hl 2 rfl) ?_
        refine lv_icmp_gt (tgt := 39) hx hb dX2_workCall_23 (by decide) (fun c_24 => ?_) (fun c_24 => ?_)
        · have h := h.1 c_24
          obtain ⟨y25, e_y25⟩ : ∃ y : Int32, y = x3 + 1 := ⟨_, rfl⟩
          have h := h y25 e_y25
          refine lv_iinc (v := y25) (lv' := [(3, .int y25), (0, .ref fl_h), (1, .int x1), (2, .int x2)]) hx hb dX2_workCall_39 hl (k := 3) rfl (by rw [e_y25]; rfl) (by decide) rfl (fun ls hl => ?_)
          refine lv_goto (tgt := 2) hx hb dX2_workCall_42 (by decide) ?_
          exact ih fl_notes y25 h _ _ _ hP hD hS (lv_sub hl [1, 2, 3, 0] rfl)
        · have h := h.2 c_24
          refine lv_aload_n hx hb dX2_workCall_26 rfl (lv_at hl 0 rfl) ?_
          refine va_get (D := D) (ci := 2) (v := .ref (fl_ad 8)) (C := RX2) (T := TX2) (N := 15) hx hb hts mi_X2_workCall_X2 hown hK hP 0 rfl rfl 8 (by decide) (hts (.fieldLink RX2 27 "HiringHall$Floor" "notes" "[I") (List.mem_of_getElem? (i := 2) rfl)) (fun _ h9 => h9) rfl dX2_workCall_27 ?_
          refine lv_iload_n hx hb dX2_workCall_30 rfl (lv_at hl 1 rfl) ?_
          refine lv_bipush (v := 16) hx hb dX2_workCall_31 (by decide) ?_
          refine lv_imul hx hb dX2_workCall_33 ?_
          refine lv_iload_n hx hb dX2_workCall_34 rfl (lv_at hl 3 rfl) ?_
          refine lv_iadd hx hb dX2_workCall_35 ?_
          refine lv_bipush (v := 6) hx hb dX2_workCall_36 (by decide) ?_
          obtain ⟨hi_26, h⟩ := h
          refine va_iast hx hb hK hP hD hS 6 0 rfl rfl hi_26 dX2_workCall_38 (fun H locs hP hD hS => ?_)
          have hP : va_P D vwCl ((wo_X2 cI cZ fl_h fl_ad ru_h cr_h ca_h fl_lists fl_listSize fl_job fl_jobLast fl_refusals (upd fl_notes (((x1 * 16) + x3).toNatClampNeg) 6) fl_laws fl_line fl_lineSize fl_clock fl_callsDone fl_sentInAll) ++ ((wo_X4 cI cZ ru_h ru_ad ru_from ru_voted ru_undone ru_says ru_texts ru_lines) ++ ((wo_X1 cI cZ cr_h cr_ad cr_book cr_signed cr_size cr_latestPaper cr_paperBefore cr_paperLast cr_paperTold cr_papers cr_minutesHere cr_heres) ++ (wo_X0 cI cZ ca_h ca_ad ca_skill ca_days ca_wanted ca_named ca_minute ca_day ca_refusers ca_order ca_size)))) H := hP
          have hD : va_D A ((wo_X2 cI cZ fl_h fl_ad ru_h cr_h ca_h fl_lists fl_listSize fl_job fl_jobLast fl_refusals (upd fl_notes (((x1 * 16) + x3).toNatClampNeg) 6) fl_laws fl_line fl_lineSize fl_clock fl_callsDone fl_sentInAll) ++ ((wo_X4 cI cZ ru_h ru_ad ru_from ru_voted ru_undone ru_says ru_texts ru_lines) ++ ((wo_X1 cI cZ cr_h cr_ad cr_book cr_signed cr_size cr_latestPaper cr_paperBefore cr_paperLast cr_paperTold cr_papers cr_minutesHere cr_heres) ++ (wo_X0 cI cZ ca_h ca_ad ca_skill ca_days ca_wanted ca_named ca_minute ca_day ca_refusers ca_order ca_size)))) := hD
          obtain ⟨y27, e_y27⟩ : ∃ y : Int32, y = x3 + 1 := ⟨_, rfl⟩
          have h := h y27 e_y27
          refine lv_iinc (v := y27) (lv' := [(3, .int y27), (0, .ref fl_h), (1, .int x1), (2, .int x2)]) hx hb dX2_workCall_39 hl (k := 3) rfl (by rw [e_y27]; rfl) (by decide) rfl (fun ls hl => ?_)
          refine lv_goto (tgt := 2) hx hb dX2_workCall_42 (by decide) ?_
          exact ih (upd fl_notes (((x1 * 16) + x3).toNatClampNeg) 6) y27 h _ _ _ hP hD hS (lv_sub hl [1, 2, 3, 0] rfl)
  refine lv_iconst (v := 0) hx hb dX2_workCall_0 (by decide) ?_
  refine lv_istore_n (lv' := [(3, .int 0), (0, .ref fl_h), (1, .int x1), (2, .int x2)]) hx hb dX2_workCall_1 rfl hl (by decide) rfl (fun ls hl => ?_)
  obtain ⟨n, h⟩ := h
  exact b2  n fl_notes 0 h _ _ _ hP hD hS (lv_sub hl [1, 2, 3, 0] rfl)
def rm_X2_work : Room := { frames := 4, cells := 0, slots := 0, locals := 96 }
theorem mi_X2_work_X0 : ∀ w ∈ wsX00, w ∈ wsX2_work := fun _ h => List.mem_cons_of_mem _ (List.mem_append_left _ (List.mem_append_left _ (List.mem_append_right _ h)))
theorem mi_X2_work_X2 : ∀ w ∈ wsX20, w ∈ wsX2_work := fun _ h => List.mem_cons_of_mem _ (List.mem_append_left _ (List.mem_append_left _ (List.mem_append_left _ (List.mem_append_right _ h))))
set_option maxHeartbeats 4000000 in
set_option maxRecDepth 100000 in
theorem c_X2_work (l : Launch) (D : va_G) (cI cZ : ClassId) (E : (Nat → Nat) × (Nat → Nat)) (fl_h : Nat) (fl_ad : Nat → Nat) (ru_h : Nat) (ru_ad : Nat → Nat) (cr_h : Nat) (cr_ad : Nat → Nat) (ca_h : Nat) (ca_ad : Nat → Nat) (fl_lists : (Nat → Int32)) (fl_listSize : (Nat → Int32)) (fl_job : (Nat → Int32)) (fl_jobLast : (Nat → Int32)) (fl_refusals : (Nat → Int32)) (fl_notes : (Nat → Int32)) (fl_laws : (Nat → Int32)) (fl_line : (Nat → Int32)) (fl_lineSize : Int32) (fl_clock : Int32) (fl_callsDone : Int32) (fl_sentInAll : Int32) (ru_from : (Nat → Int32)) (ru_voted : (Nat → Int32)) (ru_undone : (Nat → Int32)) (ru_says : (Nat → Int32)) (ru_texts : Int32) (ru_lines : Int32) (cr_book : (Nat → Int32)) (cr_signed : (Nat → Int32)) (cr_size : Int32) (cr_latestPaper : (Nat → Int32)) (cr_paperBefore : (Nat → Int32)) (cr_paperLast : (Nat → Int32)) (cr_paperTold : (Nat → Int32)) (cr_papers : Int32) (cr_minutesHere : (Nat → Int32)) (cr_heres : Int32) (ca_skill : (Nat → Int32)) (ca_days : (Nat → Int32)) (ca_wanted : (Nat → Int32)) (ca_named : (Nat → Int32)) (ca_minute : (Nat → Int32)) (ca_day : (Nat → Int32)) (ca_refusers : (Nat → Int32)) (ca_order : (Nat → Int32)) (ca_size : Int32) (x1 : Int32) (x2 : Int32) (K : (Int32 → (Nat → Int32) → (Nat → Int32) → (Nat → Int32) → (Nat → Int32) → (Nat → Int32) → (Nat → Int32) → (Nat → Int32) → (Nat → Int32) → Int32 → Int32 → Int32 → Int32 → Prop)) (h : wp_X2_work fl_lists fl_listSize fl_job fl_jobLast fl_refusals fl_notes fl_laws fl_line fl_lineSize fl_clock fl_callsDone fl_sentInAll ru_from ru_voted ru_undone ru_says ru_texts cr_book cr_signed cr_size cr_latestPaper cr_paperBefore cr_paperLast cr_paperTold cr_papers cr_minutesHere ca_skill ca_days ca_wanted ca_named ca_minute ca_day ca_refusers ca_order ca_size x1 x2 K) : mk_Ci l D cI cZ E yX2_work wsX2_work rm_X2_work ([.ref fl_h, .int x1, .int x2] : List Value) ((wo_X2 cI cZ fl_h fl_ad ru_h cr_h ca_h fl_lists fl_listSize fl_job fl_jobLast fl_refusals fl_notes fl_laws fl_line fl_lineSize fl_clock fl_callsDone fl_sentInAll) ++ ((wo_X4 cI cZ ru_h ru_ad ru_from ru_voted ru_undone ru_says ru_texts ru_lines) ++ ((wo_X1 cI cZ cr_h cr_ad cr_book cr_signed cr_size cr_latestPaper cr_paperBefore cr_paperLast cr_paperTold cr_papers cr_minutesHere cr_heres) ++ (wo_X0 cI cZ ca_h ca_ad ca_skill ca_days ca_wanted ca_named ca_minute ca_day ca_refusers ca_order ca_size)))) (fun (u : (Nat → Int32) × (Nat → Int32) × (Nat → Int32) × (Nat → Int32) × (Nat → Int32) × (Nat → Int32) × (Nat → Int32) × (Nat → Int32) × Int32 × Int32 × Int32 × Int32) => ((wo_X2 cI cZ fl_h fl_ad ru_h cr_h ca_h u.1 u.2.1 u.2.2.1 u.2.2.2.1 u.2.2.2.2.1 u.2.2.2.2.2.1 u.2.2.2.2.2.2.1 u.2.2.2.2.2.2.2.1 u.2.2.2.2.2.2.2.2.1 u.2.2.2.2.2.2.2.2.2.1 u.2.2.2.2.2.2.2.2.2.2.1 u.2.2.2.2.2.2.2.2.2.2.2) ++ ((wo_X4 cI cZ ru_h ru_ad ru_from ru_voted ru_undone ru_says ru_texts ru_lines) ++ ((wo_X1 cI cZ cr_h cr_ad cr_book cr_signed cr_size cr_latestPaper cr_paperBefore cr_paperLast cr_paperTold cr_papers cr_minutesHere cr_heres) ++ (wo_X0 cI cZ ca_h ca_ad ca_skill ca_days ca_wanted ca_named ca_minute ca_day ca_refusers ca_order ca_size))))) (fun (r : Int32) (u : (Nat → Int32) × (Nat → Int32) × (Nat → Int32) × (Nat → Int32) × (Nat → Int32) × (Nat → Int32) × (Nat → Int32) × (Nat → Int32) × Int32 × Int32 × Int32 × Int32) => K r u.1 u.2.1 u.2.2.1 u.2.2.2.1 u.2.2.2.2.1 u.2.2.2.2.2.1 u.2.2.2.2.2.2.1 u.2.2.2.2.2.2.2.1 u.2.2.2.2.2.2.2.2.1 u.2.2.2.2.2.2.2.2.2.1 u.2.2.2.2.2.2.2.2.2.2.1 u.2.2.2.2.2.2.2.2.2.2.2) := by
  intro sz
  refine Met.ofW (cc := cX2_work) (maxL := 5) (ret := (some .int)) (by decide) rfl ?_
  intro p e s m args below meth c s₁ B hml hv
  obtain ⟨rfl, hsz, hP, hK, hD0, hN, hE⟩ := hv
  have hx := B.exec
  have hb := B.bytes
  have hr := B.returns
  have hts := atoms_spec (ws := wsX2_work) B.pre
  have hown : s.vm.findClass RX2 = some m.cls := findClass_of_methodNamed B.named
  have hlocks := B.notSynchronized
  subst hsz
  have hD := hD0.self (sz := s.heap.size)
  generalize hAe : va_A ((wo_X2 cI cZ fl_h fl_ad ru_h cr_h ca_h fl_lists fl_listSize fl_job fl_jobLast fl_refusals fl_notes fl_laws fl_line fl_lineSize fl_clock fl_callsDone fl_sentInAll) ++ ((wo_X4 cI cZ ru_h ru_ad ru_from ru_voted ru_undone ru_says ru_texts ru_lines) ++ ((wo_X1 cI cZ cr_h cr_ad cr_book cr_signed cr_size cr_latestPaper cr_paperBefore cr_paperLast cr_paperTold cr_papers cr_minutesHere cr_heres) ++ (wo_X0 cI cZ ca_h ca_ad ca_skill ca_days ca_wanted ca_named ca_minute ca_day ca_refusers ca_order ca_size)))) s.heap.size = A at hD hE ⊢
  have hA : ∀ q : Nat, s.heap.size ≤ q → A q := fun q h => by rw [← hAe]; exact Or.inr h
  have hl := lv_entry ([.ref fl_h, .int x1, .int x2] : List Value) (n := 5) (Nat.le_of_ble_eq_true rfl)
  rw [lg_entry_eq]
  generalize (lg_sl ([.ref fl_h, .int x1, .int x2] : List Value) ++ List.replicate (5 - (lg_sl ([.ref fl_h, .int x1, .int x2] : List Value)).length) Slot.unset).toArray = ls at hl ⊢
  have hl : lv_has ls 5 [(0, .ref fl_h), (1, .int x1), (2, .int x2)] := hl
  refine mk_absQ (P := fun Q => W p l e _ s m _ below meth c s.heap [] 0 0 Q _) (fun Q hQ => ?_)
  refine mk_absH (P := fun H => W p l e _ s m _ below meth c H [] 0 0 Q _) (fun H hH => ?_)
  have hP : va_P D vwCl ((wo_X2 cI cZ fl_h fl_ad ru_h cr_h ca_h fl_lists fl_listSize fl_job fl_jobLast fl_refusals fl_notes fl_laws fl_line fl_lineSize fl_clock fl_callsDone fl_sentInAll) ++ ((wo_X4 cI cZ ru_h ru_ad ru_from ru_voted ru_undone ru_says ru_texts ru_lines) ++ ((wo_X1 cI cZ cr_h cr_ad cr_book cr_signed cr_size cr_latestPaper cr_paperBefore cr_paperLast cr_paperTold cr_papers cr_minutesHere cr_heres) ++ (wo_X0 cI cZ ca_h ca_ad ca_skill ca_days ca_wanted ca_named ca_minute ca_day ca_refusers ca_order ca_size)))) H := by rw [hH]; exact hP
  have hS : va_S A s.heap H [] := by rw [hH]; exact va_S.rf
  have b54 : ∀ (n : Nat), ∀ (fl_lists : (Nat → Int32)) (fl_listSize : (Nat → Int32)) (fl_job : (Nat → Int32)) (fl_jobLast : (Nat → Int32)) (fl_refusals : (Nat → Int32)) (fl_notes : (Nat → Int32)) (fl_laws : (Nat → Int32)) (fl_line : (Nat → Int32)) (fl_lineSize : Int32) (fl_clock : Int32) (fl_callsDone : Int32) (fl_sentInAll : Int32) (x3 : Int32) (x4 : Int32), wp_X2_work_b54 K cr_book cr_signed cr_size cr_latestPaper cr_paperBefore cr_paperLast cr_paperTold cr_papers cr_minutesHere ca_skill ca_days ca_wanted ca_named ca_minute ca_day ca_refusers ca_order ca_size x1 n fl_lists fl_listSize fl_job fl_jobLast fl_refusals fl_notes fl_laws fl_line fl_lineSize fl_clock fl_callsDone fl_sentInAll x3 x4 → ∀ (H : Heap) (locs : List Loc) (ls : Array Slot), va_P D vwCl ((wo_X2 cI cZ fl_h fl_ad ru_h cr_h ca_h fl_lists fl_listSize fl_job fl_jobLast fl_refusals fl_notes fl_laws fl_line fl_lineSize fl_clock fl_callsDone fl_sentInAll) ++ ((wo_X4 cI cZ ru_h ru_ad ru_from ru_voted ru_undone ru_says ru_texts ru_lines) ++ ((wo_X1 cI cZ cr_h cr_ad cr_book cr_signed cr_size cr_latestPaper cr_paperBefore cr_paperLast cr_paperTold cr_papers cr_minutesHere cr_heres) ++ (wo_X0 cI cZ ca_h ca_ad ca_skill ca_days ca_wanted ca_named ca_minute ca_day ca_refusers ca_order ca_size)))) H → va_D A ((wo_X2 cI cZ fl_h fl_ad ru_h cr_h ca_h fl_lists fl_listSize fl_job fl_jobLast fl_refusals fl_notes fl_laws fl_line fl_lineSize fl_clock fl_callsDone fl_sentInAll) ++ ((wo_X4 cI cZ ru_h ru_ad ru_from ru_voted ru_undone ru_says ru_texts ru_lines) ++ ((wo_X1 cI cZ cr_h cr_ad cr_book cr_signed cr_size cr_latestPaper cr_paperBefore cr_paperLast cr_paperTold cr_papers cr_minutesHere cr_heres) ++ (wo_X0 cI cZ ca_h ca_ad ca_skill ca_days ca_wanted ca_named ca_minute ca_day ca_refusers ca_order ca_size)))) → va_S A s.heap H locs → lv_has ls 5 [(0, .ref fl_h), (1, .int x1), (3, .int x3), (4, .int x4)] → W p l e (headSpec wsX2_work rm_X2_work).room s m ([.ref fl_h, .int x1, .int x2] : List Value).toArray below meth c H locs 0 0 Q (F0 m 54 ls []) := by
    intro n
    induction n with
    | zero => intro fl_lists fl_listSize fl_job fl_jobLast fl_refusals fl_notes fl_laws fl_line fl_lineSize fl_clock fl_callsDone fl_sentInAll x3 x4 h; exact False.elim h
    | succ n ih =>
      intro fl_lists fl_listSize fl_job fl_jobLast fl_refusals fl_notes fl_laws fl_line fl_lineSize fl_clock fl_callsDone fl_sentInAll x3 x4 h H locs ls hP hD hS hl
      refine lv_iload hx hb dX2_work_54 (lv_at hl 3 rfl) ?_
      refine lv_aload_n hx hb dX2_work_56 rfl (lv_at hl 0 rfl) ?_
      refine va_get (D := D) (ci := 2) (v := .ref ca_h) (C := RX2) (T := TX2) (N := 15) hx hb hts mi_X2_work_X2 hown hK hP 0 rfl rfl 2 (by decide) (hts (.fieldLink RX2 44 "HiringHall$Floor" "calls" "LHiringHall$Calls;") (List.mem_of_getElem? (i := 5) rfl)) (fun _ h9 => h9) rfl dX2_work_57 ?_
      refine va_getN (D := D) (ci := 0) (v := .int ca_size) (C := RX0) (T := TX0) (N := 9) hx hb hts mi_X2_work_X0 hown hK hP 22 rfl rfl 8 (by decide) (va_Nw.use rfl (hN.1 (RX2, 74, RX0, "size", "I", RX7) (List.mem_of_getElem? (i := 23) rfl))) (fun _ h9 => h9) rfl dX2_work_60 ?_
      refine lv_icmp_ge (tgt := 119) hx hb dX2_work_63 (by decide) (fun c_1 => ?_) (fun c_1 => ?_)
      · have h := h.1 c_1
        refine lv_aload_n hx hb dX2_work_119 rfl (lv_at hl 0 rfl) ?_
        refine va_get (D := D) (ci := 2) (v := .int fl_sentInAll) (C := RX2) (T := TX2) (N := 15) hx hb hts mi_X2_work_X2 hown hK hP 0 rfl rfl 14 (by decide) (hts (.fieldLink RX2 58 "HiringHall$Floor" "sentInAll" "I") (List.mem_of_getElem? (i := 3) rfl)) (fun _ h9 => h9) rfl dX2_work_120 ?_
        refine lv_iload_n hx hb dX2_work_123 rfl (lv_at hl 2 rfl) ?_
        refine lv_isub hx hb dX2_work_124 ?_
        rw [hQ]
        exact W.iret (v := (fl_sentInAll - x3)) hx hb hr (fun t ht hW => ⟨⟨(fl_sentInAll - x3), (fl_lists, fl_listSize, fl_job, fl_jobLast, fl_refusals, fl_notes, fl_laws, fl_line, fl_lineSize, fl_clock, fl_callsDone, fl_sentInAll), rfl, h, by rw [ht]; exact hP, va_K.moved hW.alike hK, hD⟩, hS.F ht⟩) hS.2.2 dX2_work_125
      · have h := h.2 c_1
        refine lv_aload_n hx hb dX2_work_66 rfl (lv_at hl 0 rfl) ?_
        refine va_get (D := D) (ci := 2) (v := .ref ca_h) (C := RX2) (T := TX2) (N := 15) hx hb hts mi_X2_work_X2 hown hK hP 0 rfl rfl 2 (by decide) (hts (.fieldLink RX2 44 "HiringHall$Floor" "calls" "LHiringHall$Calls;") (List.mem_of_getElem? (i := 5) rfl)) (fun _ h9 => h9) rfl dX2_work_67 ?_
        refine va_getN (D := D) (ci := 0) (v := .ref (ca_ad 5)) (C := RX0) (T := TX0) (N := 9) hx hb hts mi_X2_work_X0 hown hK hP 22 rfl rfl 5 (by decide) (va_Nw.use rfl (hN.1 (RX2, 79, RX0, "day", "[I", RX7) (List.mem_of_getElem? (i := 20) rfl))) (fun _ h9 => h9) rfl dX2_work_70 ?_
        refine lv_aload_n hx hb dX2_work_73 rfl (lv_at hl 0 rfl) ?_
        refine va_get (D := D) (ci := 2) (v := .ref ca_h) (C := RX2) (T := TX2) (N := 15) hx hb hts mi_X2_work_X2 hown hK hP 0 rfl rfl 2 (by decide) (hts (.fieldLink RX2 44 "HiringHall$Floor" "calls" "LHiringHall$Calls;") (List.mem_of_getElem? (i := 5) rfl)) (fun _ h9 => h9) rfl dX2_work_74 ?_
        refine va_getN (D := D) (ci := 0) (v := .ref (ca_ad 7)) (C := RX0) (T := TX0) (N := 9) hx hb hts mi_X2_work_X0 hown hK hP 22 rfl rfl 7 (by decide) (va_Nw.use rfl (hN.1 (RX2, 82, RX0, "order", "[I", RX7) (List.mem_of_getElem? (i := 22) rfl))) (fun _ h9 => h9) rfl dX2_work_77 ?_
        refine lv_iload hx hb dX2_work_80 (lv_at hl 3 rfl) ?_
        obtain ⟨hi_2, h⟩ := h
        refine va_iald hx hb hK hP 30 0 rfl rfl hi_2 dX2_work_82 ?_
        obtain ⟨hi_3, h⟩ := h
        refine va_iald hx hb hK hP 28 0 rfl rfl hi_3 dX2_work_83 ?_
        refine lv_iload_n hx hb dX2_work_84 rfl (lv_at hl 1 rfl) ?_
        refine lv_icmp_ne (tgt := 119) hx hb dX2_work_85 (by decide) (fun c_4 => ?_) (fun c_4 => ?_)
        · have h := h.1 c_4
          refine lv_aload_n hx hb dX2_work_119 rfl (lv_at hl 0 rfl) ?_
          refine va_get (D := D) (ci := 2) (v := .int fl_sentInAll) (C := RX2) (T := TX2) (N := 15) hx hb hts mi_X2_work_X2 hown hK hP 0 rfl rfl 14 (by decide) (hts (.fieldLink RX2 58 "HiringHall$Floor" "sentInAll" "I") (List.mem_of_getElem? (i := 3) rfl)) (fun _ h9 => h9) rfl dX2_work_120 ?_
          refine lv_iload_n hx hb dX2_work_123 rfl (lv_at hl 2 rfl) ?_
          refine lv_isub hx hb dX2_work_124 ?_
          rw [hQ]
          exact W.iret (v := (fl_sentInAll - x3)) hx hb hr (fun t ht hW => ⟨⟨(fl_sentInAll - x3), (fl_lists, fl_listSize, fl_job, fl_jobLast, fl_refusals, fl_notes, fl_laws, fl_line, fl_lineSize, fl_clock, fl_callsDone, fl_sentInAll), rfl, h, by rw [ht]; exact hP, va_K.moved hW.alike hK, hD⟩, hS.F ht⟩) hS.2.2 dX2_work_125
        · have h := h.2 c_4
          refine lv_aload_n hx hb dX2_work_88 rfl (lv_at hl 0 rfl) ?_
          refine lv_aload_n hx hb dX2_work_89 rfl (lv_at hl 0 rfl) ?_
          refine va_get (D := D) (ci := 2) (v := .ref ca_h) (C := RX2) (T := TX2) (N := 15) hx hb hts mi_X2_work_X2 hown hK hP 0 rfl rfl 2 (by decide) (hts (.fieldLink RX2 44 "HiringHall$Floor" "calls" "LHiringHall$Calls;") (List.mem_of_getElem? (i := 5) rfl)) (fun _ h9 => h9) rfl dX2_work_90 ?_
          refine va_getN (D := D) (ci := 0) (v := .ref (ca_ad 7)) (C := RX0) (T := TX0) (N := 9) hx hb hts mi_X2_work_X0 hown hK hP 22 rfl rfl 7 (by decide) (va_Nw.use rfl (hN.1 (RX2, 82, RX0, "order", "[I", RX7) (List.mem_of_getElem? (i := 22) rfl))) (fun _ h9 => h9) rfl dX2_work_93 ?_
          refine lv_iload hx hb dX2_work_96 (lv_at hl 3 rfl) ?_
          obtain ⟨hi_5, h⟩ := h
          refine va_iald hx hb hK hP 30 0 rfl rfl hi_5 dX2_work_98 ?_
          refine lv_iload_n hx hb dX2_work_99 rfl (lv_at hl 1 rfl) ?_
          have hP : va_P D vwCl ((fun v => v) ((wo_X2 cI cZ fl_h fl_ad ru_h cr_h ca_h fl_lists fl_listSize fl_job fl_jobLast fl_refusals fl_notes fl_laws fl_line fl_lineSize fl_clock fl_callsDone fl_sentInAll) ++ ((wo_X4 cI cZ ru_h ru_ad ru_from ru_voted ru_undone ru_says ru_texts ru_lines) ++ ((wo_X1 cI cZ cr_h cr_ad cr_book cr_signed cr_size cr_latestPaper cr_paperBefore cr_paperLast cr_paperTold cr_papers cr_minutesHere cr_heres) ++ (wo_X0 cI cZ ca_h ca_ad ca_skill ca_days ca_wanted ca_named ca_minute ca_day ca_refusers ca_order ca_size))))) H := hP
          have hD : va_D A ((fun v => v) ((wo_X2 cI cZ fl_h fl_ad ru_h cr_h ca_h fl_lists fl_listSize fl_job fl_jobLast fl_refusals fl_notes fl_laws fl_line fl_lineSize fl_clock fl_callsDone fl_sentInAll) ++ ((wo_X4 cI cZ ru_h ru_ad ru_from ru_voted ru_undone ru_says ru_texts ru_lines) ++ ((wo_X1 cI cZ cr_h cr_ad cr_book cr_signed cr_size cr_latestPaper cr_paperBefore cr_paperLast cr_paperTold cr_papers cr_minutesHere cr_heres) ++ (wo_X0 cI cZ ca_h ca_ad ca_skill ca_days ca_wanted ca_named ca_minute ca_day ca_refusers ca_order ca_size))))) := hD
          refine mk_cv (f := fun v => v) mk_fr_id (va_runV (As := [.int (ca_order (x4.toNatClampNeg)), .int x1]) (rest := []) ⟨hx, hb, hml, hown, hts⟩ (c_X2_workCall l D cI cZ E fl_h fl_ad ru_h ru_ad cr_h cr_ad ca_h ca_ad fl_lists fl_listSize fl_job fl_jobLast fl_refusals fl_notes fl_laws fl_line fl_lineSize fl_clock fl_callsDone fl_sentInAll ru_from ru_voted ru_undone ru_says ru_texts ru_lines cr_book cr_signed cr_size cr_latestPaper cr_paperBefore cr_paperLast cr_paperTold cr_papers cr_minutesHere cr_heres ca_skill ca_days ca_wanted ca_named ca_minute ca_day ca_refusers ca_order ca_size (ca_order (x4.toNatClampNeg)) x1 _ h H.size) (cwV 2 hts gX2_work_X2_workCall rfl rfl rfl (by decide +kernel) ⟨Nat.le_of_ble_eq_true rfl, Nat.le_of_ble_eq_true rfl⟩) (mk_preV (ci := 2) mk_fr_id hK hN hE hS hA hP hD rfl rfl) rfl rfl hl.1 rfl (lv_room (Nat.le_of_ble_eq_true rfl)) dX2_work_100 ⟨Nat.le_of_ble_eq_true rfl, Nat.le_of_ble_eq_true rfl⟩) hP hD hS hA (fun u H locs h hP hD hS => ?_)
          obtain ⟨a6, a7, a8, a9, a10, a11, y12, y13, y14⟩ := u
          try dsimp only at h
          have hP : va_P D vwCl ((wo_X2 cI cZ fl_h fl_ad ru_h cr_h ca_h a6 fl_listSize a7 a8 a9 a10 fl_laws a11 y12 y13 fl_callsDone y14) ++ ((wo_X4 cI cZ ru_h ru_ad ru_from ru_voted ru_undone ru_says ru_texts ru_lines) ++ ((wo_X1 cI cZ cr_h cr_ad cr_book cr_signed cr_size cr_latestPaper cr_paperBefore cr_paperLast cr_paperTold cr_papers cr_minutesHere cr_heres) ++ (wo_X0 cI cZ ca_h ca_ad ca_skill ca_days ca_wanted ca_named ca_minute ca_day ca_refusers ca_order ca_size)))) H := hP
          have hD : va_D A ((wo_X2 cI cZ fl_h fl_ad ru_h cr_h ca_h a6 fl_listSize a7 a8 a9 a10 fl_laws a11 y12 y13 fl_callsDone y14) ++ ((wo_X4 cI cZ ru_h ru_ad ru_from ru_voted ru_undone ru_says ru_texts ru_lines) ++ ((wo_X1 cI cZ cr_h cr_ad cr_book cr_signed cr_size cr_latestPaper cr_paperBefore cr_paperLast cr_paperTold cr_papers cr_minutesHere cr_heres) ++ (wo_X0 cI cZ ca_h ca_ad ca_skill ca_days ca_wanted ca_named ca_minute ca_day ca_refusers ca_order ca_size)))) := hD
          refine lv_aload_n hx hb dX2_work_103 rfl (lv_at hl 0 rfl) ?_
          refine lv_dup hx hb dX2_work_104 rfl ?_
          refine va_get (D := D) (ci := 2) (v := .int fl_callsDone) (C := RX2) (T := TX2) (N := 15) hx hb hts mi_X2_work_X2 hown hK hP 0 rfl rfl 13 (by decide) (hts (.fieldLink RX2 54 "HiringHall$Floor" "callsDone" "I") (List.mem_of_getElem? (i := 4) rfl)) (fun _ h9 => h9) rfl dX2_work_105 ?_
          refine lv_iconst (v := 1) hx hb dX2_work_108 (by decide) ?_
          refine lv_iadd hx hb dX2_work_109 ?_
          refine lv_topi (fun y15 e_y15 => ?_)
          have h := h y15 e_y15
          refine va_put (D := D) (ci := 2) (v := .int y15) (ty := .int) (C := RX2) (T := TX2) (N := 15) hx hb hts mi_X2_work_X2 tyX2 tyX2_ok nmX2 hown hK hP hD hS 0 rfl rfl 13 (by decide) (hts (.fieldLink RX2 54 "HiringHall$Floor" "callsDone" "I") (List.mem_of_getElem? (i := 4) rfl)) (fun _ h9 => h9) rfl (by decide +kernel) rfl rfl (Nat.le_of_ble_eq_true rfl) dX2_work_110 (fun H locs hP hD hS => ?_)
          have hP : va_P D vwCl ((wo_X2 cI cZ fl_h fl_ad ru_h cr_h ca_h a6 fl_listSize a7 a8 a9 a10 fl_laws a11 y12 y13 y15 y14) ++ ((wo_X4 cI cZ ru_h ru_ad ru_from ru_voted ru_undone ru_says ru_texts ru_lines) ++ ((wo_X1 cI cZ cr_h cr_ad cr_book cr_signed cr_size cr_latestPaper cr_paperBefore cr_paperLast cr_paperTold cr_papers cr_minutesHere cr_heres) ++ (wo_X0 cI cZ ca_h ca_ad ca_skill ca_days ca_wanted ca_named ca_minute ca_day ca_refusers ca_order ca_size)))) H := hP
          have hD : va_D A ((wo_X2 cI cZ fl_h fl_ad ru_h cr_h ca_h a6 fl_listSize a7 a8 a9 a10 fl_laws a11 y12 y13 y15 y14) ++ ((wo_X4 cI cZ ru_h ru_ad ru_from ru_voted ru_undone ru_says ru_texts ru_lines) ++ ((wo_X1 cI cZ cr_h cr_ad cr_book cr_signed cr_size cr_latestPaper cr_paperBefore cr_paperLast cr_paperTold cr_papers cr_minutesHere cr_heres) ++ (wo_X0 cI cZ ca_h ca_ad ca_skill ca_days ca_wanted ca_named ca_minute ca_day ca_refusers ca_order ca_size)))) := hD
          obtain ⟨y16, e_y16⟩ : ∃ y : Int32, y = x4 + 1 := ⟨_, rfl⟩
          have h := h y16 e_y16
          refine lv_iinc (v := y16) (lv' := [(4, .int y16), (0, .ref fl_h), (1, .int x1), (3, .int x3)]) hx hb dX2_work_113 hl (k := 3) rfl (by rw [e_y16]; rfl) (by decide) rfl (fun ls hl => ?_)
          refine lv_goto (tgt := 54) hx hb dX2_work_116 (by decide) ?_
          exact ih a6 fl_listSize a7 a8 a9 a10 fl_laws a11 y12 y13 y15 y14 x3 y16 h _ _ _ hP hD hS (lv_sub hl [1, 2, 3, 0] rfl)
  have b2 : ∀ (n : Nat), ∀ (fl_laws : (Nat → Int32)) (x3 : Int32), wp_X2_work_b2 K fl_lists fl_listSize fl_job fl_jobLast fl_refusals fl_notes fl_line fl_lineSize fl_clock fl_callsDone fl_sentInAll ru_from ru_voted ru_undone ru_says ru_texts cr_book cr_signed cr_size cr_latestPaper cr_paperBefore cr_paperLast cr_paperTold cr_papers cr_minutesHere ca_skill ca_days ca_wanted ca_named ca_minute ca_day ca_refusers ca_order ca_size x1 x2 n fl_laws x3 → ∀ (H : Heap) (locs : List Loc) (ls : Array Slot), va_P D vwCl ((wo_X2 cI cZ fl_h fl_ad ru_h cr_h ca_h fl_lists fl_listSize fl_job fl_jobLast fl_refusals fl_notes fl_laws fl_line fl_lineSize fl_clock fl_callsDone fl_sentInAll) ++ ((wo_X4 cI cZ ru_h ru_ad ru_from ru_voted ru_undone ru_says ru_texts ru_lines) ++ ((wo_X1 cI cZ cr_h cr_ad cr_book cr_signed cr_size cr_latestPaper cr_paperBefore cr_paperLast cr_paperTold cr_papers cr_minutesHere cr_heres) ++ (wo_X0 cI cZ ca_h ca_ad ca_skill ca_days ca_wanted ca_named ca_minute ca_day ca_refusers ca_order ca_size)))) H → va_D A ((wo_X2 cI cZ fl_h fl_ad ru_h cr_h ca_h fl_lists fl_listSize fl_job fl_jobLast fl_refusals fl_notes fl_laws fl_line fl_lineSize fl_clock fl_callsDone fl_sentInAll) ++ ((wo_X4 cI cZ ru_h ru_ad ru_from ru_voted ru_undone ru_says ru_texts ru_lines) ++ ((wo_X1 cI cZ cr_h cr_ad cr_book cr_signed cr_size cr_latestPaper cr_paperBefore cr_paperLast cr_paperTold cr_papers cr_minutesHere cr_heres) ++ (wo_X0 cI cZ ca_h ca_ad ca_skill ca_days ca_wanted ca_named ca_minute ca_day ca_refusers ca_order ca_size)))) → va_S A s.heap H locs → lv_has ls 5 [(0, .ref fl_h), (1, .int x1), (2, .int x2), (3, .int x3)] → W p l e (headSpec wsX2_work rm_X2_work).room s m ([.ref fl_h, .int x1, .int x2] : List Value).toArray below meth c H locs 0 0 Q (F0 m 2 ls []) := by
    intro n
    induction n with
    | zero => intro fl_laws x3 h; exact False.elim h
    | succ n ih =>
      intro fl_laws x3 h H locs ls hP hD hS hl
      refine lv_iload_n hx hb dX2_work_2 rfl (lv_at hl 3 rfl) ?_
      refine lv_aload_n hx hb dX2_work_3 rfl (lv_at hl 0 rfl) ?_
      refine va_get (D := D) (ci := 2) (v := .ref (fl_ad 9)) (C := RX2) (T := TX2) (N := 15) hx hb hts mi_X2_work_X2 hown hK hP 0 rfl rfl 9 (by decide) (hts (.fieldLink RX2 30 "HiringHall$Floor" "laws" "[I") (List.mem_of_getElem? (i := 1) rfl)) (fun _ h9 => h9) rfl dX2_work_4 ?_
      refine va_alen (v := 5) hx hb hK hP 7 0 rfl (ty := .int) rfl rfl dX2_work_7 ?_
      refine lv_icmp_ge (tgt := 33) hx hb dX2_work_8 (by decide) (fun c_17 => ?_) (fun c_17 => ?_)
      · have h := h.1 c_17
        refine lv_aload_n hx hb dX2_work_33 rfl (lv_at hl 0 rfl) ?_
        refine lv_iload_n hx hb dX2_work_34 rfl (lv_at hl 1 rfl) ?_
        have hP : va_P D vwCl ((fun v => v) ((wo_X2 cI cZ fl_h fl_ad ru_h cr_h ca_h fl_lists fl_listSize fl_job fl_jobLast fl_refusals fl_notes fl_laws fl_line fl_lineSize fl_clock fl_callsDone fl_sentInAll) ++ ((wo_X4 cI cZ ru_h ru_ad ru_from ru_voted ru_undone ru_says ru_texts ru_lines) ++ ((wo_X1 cI cZ cr_h cr_ad cr_book cr_signed cr_size cr_latestPaper cr_paperBefore cr_paperLast cr_paperTold cr_papers cr_minutesHere cr_heres) ++ (wo_X0 cI cZ ca_h ca_ad ca_skill ca_days ca_wanted ca_named ca_minute ca_day ca_refusers ca_order ca_size))))) H := hP
        have hD : va_D A ((fun v => v) ((wo_X2 cI cZ fl_h fl_ad ru_h cr_h ca_h fl_lists fl_listSize fl_job fl_jobLast fl_refusals fl_notes fl_laws fl_line fl_lineSize fl_clock fl_callsDone fl_sentInAll) ++ ((wo_X4 cI cZ ru_h ru_ad ru_from ru_voted ru_undone ru_says ru_texts ru_lines) ++ ((wo_X1 cI cZ cr_h cr_ad cr_book cr_signed cr_size cr_latestPaper cr_paperBefore cr_paperLast cr_paperTold cr_papers cr_minutesHere cr_heres) ++ (wo_X0 cI cZ ca_h ca_ad ca_skill ca_days ca_wanted ca_named ca_minute ca_day ca_refusers ca_order ca_size))))) := hD
        refine mk_cv (f := fun v => v) mk_fr_id (va_runV (As := [.int x1]) (rest := []) ⟨hx, hb, hml, hown, hts⟩ (c_X2_bringBack l D cI cZ E fl_h fl_ad ru_h ru_ad cr_h cr_ad ca_h ca_ad fl_lists fl_listSize fl_job fl_jobLast fl_refusals fl_notes fl_laws fl_line fl_lineSize fl_clock fl_callsDone fl_sentInAll ru_from ru_voted ru_undone ru_says ru_texts ru_lines cr_book cr_signed cr_size cr_latestPaper cr_paperBefore cr_paperLast cr_paperTold cr_papers cr_minutesHere cr_heres ca_skill ca_days ca_wanted ca_named ca_minute ca_day ca_refusers ca_order ca_size x1 _ h H.size) (cwV 1 hts gX2_work_X2_bringBack rfl rfl rfl (by decide +kernel) ⟨Nat.le_of_ble_eq_true rfl, Nat.le_of_ble_eq_true rfl⟩) (mk_preV (ci := 2) mk_fr_id hK hN hE hS hA hP hD rfl rfl) rfl rfl hl.1 rfl (lv_room (Nat.le_of_ble_eq_true rfl)) dX2_work_35 ⟨Nat.le_of_ble_eq_true rfl, Nat.le_of_ble_eq_true rfl⟩) hP hD hS hA (fun u H locs h hP hD hS => ?_)
        obtain ⟨a18, a19⟩ := u
        try dsimp only at h
        have hP : va_P D vwCl ((wo_X2 cI cZ fl_h fl_ad ru_h cr_h ca_h a18 fl_listSize a19 fl_jobLast fl_refusals fl_notes fl_laws fl_line fl_lineSize fl_clock fl_callsDone fl_sentInAll) ++ ((wo_X4 cI cZ ru_h ru_ad ru_from ru_voted ru_undone ru_says ru_texts ru_lines) ++ ((wo_X1 cI cZ cr_h cr_ad cr_book cr_signed cr_size cr_latestPaper cr_paperBefore cr_paperLast cr_paperTold cr_papers cr_minutesHere cr_heres) ++ (wo_X0 cI cZ ca_h ca_ad ca_skill ca_days ca_wanted ca_named ca_minute ca_day ca_refusers ca_order ca_size)))) H := hP
        have hD : va_D A ((wo_X2 cI cZ fl_h fl_ad ru_h cr_h ca_h a18 fl_listSize a19 fl_jobLast fl_refusals fl_notes fl_laws fl_line fl_lineSize fl_clock fl_callsDone fl_sentInAll) ++ ((wo_X4 cI cZ ru_h ru_ad ru_from ru_voted ru_undone ru_says ru_texts ru_lines) ++ ((wo_X1 cI cZ cr_h cr_ad cr_book cr_signed cr_size cr_latestPaper cr_paperBefore cr_paperLast cr_paperTold cr_papers cr_minutesHere cr_heres) ++ (wo_X0 cI cZ ca_h ca_ad ca_skill ca_days ca_wanted ca_named ca_minute ca_day ca_refusers ca_order ca_size)))) := hD
        refine lv_aload_n hx hb dX2_work_38 rfl (lv_at hl 0 rfl) ?_
        refine lv_iload_n hx hb dX2_work_39 rfl (lv_at hl 1 rfl) ?_
        have hP : va_P D vwCl ((fun v => v) ((wo_X2 cI cZ fl_h fl_ad ru_h cr_h ca_h a18 fl_listSize a19 fl_jobLast fl_refusals fl_notes fl_laws fl_line fl_lineSize fl_clock fl_callsDone fl_sentInAll) ++ ((wo_X4 cI cZ ru_h ru_ad ru_from ru_voted ru_undone ru_says ru_texts ru_lines) ++ ((wo_X1 cI cZ cr_h cr_ad cr_book cr_signed cr_size cr_latestPaper cr_paperBefore cr_paperLast cr_paperTold cr_papers cr_minutesHere cr_heres) ++ (wo_X0 cI cZ ca_h ca_ad ca_skill ca_days ca_wanted ca_named ca_minute ca_day ca_refusers ca_order ca_size))))) H := hP
        have hD : va_D A ((fun v => v) ((wo_X2 cI cZ fl_h fl_ad ru_h cr_h ca_h a18 fl_listSize a19 fl_jobLast fl_refusals fl_notes fl_laws fl_line fl_lineSize fl_clock fl_callsDone fl_sentInAll) ++ ((wo_X4 cI cZ ru_h ru_ad ru_from ru_voted ru_undone ru_says ru_texts ru_lines) ++ ((wo_X1 cI cZ cr_h cr_ad cr_book cr_signed cr_size cr_latestPaper cr_paperBefore cr_paperLast cr_paperTold cr_papers cr_minutesHere cr_heres) ++ (wo_X0 cI cZ ca_h ca_ad ca_skill ca_days ca_wanted ca_named ca_minute ca_day ca_refusers ca_order ca_size))))) := hD
        refine mk_cv (f := fun v => v) mk_fr_id (va_runV (As := [.int x1]) (rest := []) ⟨hx, hb, hml, hown, hts⟩ (c_X2_signOn l D cI cZ E fl_h fl_ad ru_h ru_ad cr_h cr_ad ca_h ca_ad a18 fl_listSize a19 fl_jobLast fl_refusals fl_notes fl_laws fl_line fl_lineSize fl_clock fl_callsDone fl_sentInAll ru_from ru_voted ru_undone ru_says ru_texts ru_lines cr_book cr_signed cr_size cr_latestPaper cr_paperBefore cr_paperLast cr_paperTold cr_papers cr_minutesHere cr_heres ca_skill ca_days ca_wanted ca_named ca_minute ca_day ca_refusers ca_order ca_size x1 _ h H.size) (cwV 1 hts gX2_work_X2_signOn rfl rfl rfl (by decide +kernel) ⟨Nat.le_of_ble_eq_true rfl, Nat.le_of_ble_eq_true rfl⟩) (mk_preV (ci := 2) mk_fr_id hK hN hE hS hA hP hD rfl rfl) rfl rfl hl.1 rfl (lv_room (Nat.le_of_ble_eq_true rfl)) dX2_work_40 ⟨Nat.le_of_ble_eq_true rfl, Nat.le_of_ble_eq_true rfl⟩) hP hD hS hA (fun u H locs h hP hD hS => ?_)
        obtain ⟨a20, a21⟩ := u
        try dsimp only at h
        have hP : va_P D vwCl ((wo_X2 cI cZ fl_h fl_ad ru_h cr_h ca_h a20 a21 a19 fl_jobLast fl_refusals fl_notes fl_laws fl_line fl_lineSize fl_clock fl_callsDone fl_sentInAll) ++ ((wo_X4 cI cZ ru_h ru_ad ru_from ru_voted ru_undone ru_says ru_texts ru_lines) ++ ((wo_X1 cI cZ cr_h cr_ad cr_book cr_signed cr_size cr_latestPaper cr_paperBefore cr_paperLast cr_paperTold cr_papers cr_minutesHere cr_heres) ++ (wo_X0 cI cZ ca_h ca_ad ca_skill ca_days ca_wanted ca_named ca_minute ca_day ca_refusers ca_order ca_size)))) H := hP
        have hD : va_D A ((wo_X2 cI cZ fl_h fl_ad ru_h cr_h ca_h a20 a21 a19 fl_jobLast fl_refusals fl_notes fl_laws fl_line fl_lineSize fl_clock fl_callsDone fl_sentInAll) ++ ((wo_X4 cI cZ ru_h ru_ad ru_from ru_voted ru_undone ru_says ru_texts ru_lines) ++ ((wo_X1 cI cZ cr_h cr_ad cr_book cr_signed cr_size cr_latestPaper cr_paperBefore cr_paperLast cr_paperTold cr_papers cr_minutesHere cr_heres) ++ (wo_X0 cI cZ ca_h ca_ad ca_skill ca_days ca_wanted ca_named ca_minute ca_day ca_refusers ca_order ca_size)))) := hD
        refine lv_aload_n hx hb dX2_work_43 rfl (lv_at hl 0 rfl) ?_
        refine va_get (D := D) (ci := 2) (v := .int fl_sentInAll) (C := RX2) (T := TX2) (N := 15) hx hb hts mi_X2_work_X2 hown hK hP 0 rfl rfl 14 (by decide) (hts (.fieldLink RX2 58 "HiringHall$Floor" "sentInAll" "I") (List.mem_of_getElem? (i := 3) rfl)) (fun _ h9 => h9) rfl dX2_work_44 ?_
        refine lv_istore_n (lv' := [(3, .int fl_sentInAll), (0, .ref fl_h), (1, .int x1), (2, .int x2)]) hx hb dX2_work_47 rfl hl (by decide) rfl (fun ls hl => ?_)
        refine lv_aload_n hx hb dX2_work_48 rfl (lv_at hl 1 rfl) ?_
        refine va_get (D := D) (ci := 2) (v := .int fl_callsDone) (C := RX2) (T := TX2) (N := 15) hx hb hts mi_X2_work_X2 hown hK hP 0 rfl rfl 13 (by decide) (hts (.fieldLink RX2 54 "HiringHall$Floor" "callsDone" "I") (List.mem_of_getElem? (i := 4) rfl)) (fun _ h9 => h9) rfl dX2_work_49 ?_
        refine lv_istore (lv' := [(4, .int fl_callsDone), (3, .int fl_sentInAll), (0, .ref fl_h), (1, .int x1), (2, .int x2)]) hx hb dX2_work_52 hl (by decide) rfl (fun ls hl => ?_)
        obtain ⟨n, h⟩ := h
        exact b54  n a20 a21 a19 fl_jobLast fl_refusals fl_notes fl_laws fl_line fl_lineSize fl_clock fl_callsDone fl_sentInAll fl_sentInAll fl_callsDone h _ _ _ hP hD hS (lv_sub hl [2, 3, 1, 0] rfl)
      · have h := h.2 c_17
        refine lv_aload_n hx hb dX2_work_11 rfl (lv_at hl 0 rfl) ?_
        refine va_get (D := D) (ci := 2) (v := .ref (fl_ad 9)) (C := RX2) (T := TX2) (N := 15) hx hb hts mi_X2_work_X2 hown hK hP 0 rfl rfl 9 (by decide) (hts (.fieldLink RX2 30 "HiringHall$Floor" "laws" "[I") (List.mem_of_getElem? (i := 1) rfl)) (fun _ h9 => h9) rfl dX2_work_12 ?_
        refine lv_iload_n hx hb dX2_work_15 rfl (lv_at hl 3 rfl) ?_
        refine lv_aload_n hx hb dX2_work_16 rfl (lv_at hl 0 rfl) ?_
        refine va_get (D := D) (ci := 2) (v := .ref ru_h) (C := RX2) (T := TX2) (N := 15) hx hb hts mi_X2_work_X2 hown hK hP 0 rfl rfl 0 (by decide) (hts (.fieldLink RX2 36 "HiringHall$Floor" "rules" "LHiringHall$Rules;") (List.mem_of_getElem? (i := 2) rfl)) (fun _ h9 => h9) rfl dX2_work_17 ?_
        refine lv_iload_n hx hb dX2_work_20 rfl (lv_at hl 3 rfl) ?_
        refine lv_iload_n hx hb dX2_work_21 rfl (lv_at hl 1 rfl) ?_
        refine lv_iload_n hx hb dX2_work_22 rfl (lv_at hl 2 rfl) ?_
        have hP : va_P D vwCl ((fun v => (wo_X2 cI cZ fl_h fl_ad ru_h cr_h ca_h fl_lists fl_listSize fl_job fl_jobLast fl_refusals fl_notes fl_laws fl_line fl_lineSize fl_clock fl_callsDone fl_sentInAll) ++ (v ++ ((wo_X1 cI cZ cr_h cr_ad cr_book cr_signed cr_size cr_latestPaper cr_paperBefore cr_paperLast cr_paperTold cr_papers cr_minutesHere cr_heres) ++ (wo_X0 cI cZ ca_h ca_ad ca_skill ca_days ca_wanted ca_named ca_minute ca_day ca_refusers ca_order ca_size)))) (wo_X4 cI cZ ru_h ru_ad ru_from ru_voted ru_undone ru_says ru_texts ru_lines)) H := hP
        have hD : va_D A ((fun v => (wo_X2 cI cZ fl_h fl_ad ru_h cr_h ca_h fl_lists fl_listSize fl_job fl_jobLast fl_refusals fl_notes fl_laws fl_line fl_lineSize fl_clock fl_callsDone fl_sentInAll) ++ (v ++ ((wo_X1 cI cZ cr_h cr_ad cr_book cr_signed cr_size cr_latestPaper cr_paperBefore cr_paperLast cr_paperTold cr_papers cr_minutesHere cr_heres) ++ (wo_X0 cI cZ ca_h ca_ad ca_skill ca_days ca_wanted ca_named ca_minute ca_day ca_refusers ca_order ca_size)))) (wo_X4 cI cZ ru_h ru_ad ru_from ru_voted ru_undone ru_says ru_texts ru_lines)) := hD
        refine mk_ci (f := fun v => (wo_X2 cI cZ fl_h fl_ad ru_h cr_h ca_h fl_lists fl_listSize fl_job fl_jobLast fl_refusals fl_notes fl_laws fl_line fl_lineSize fl_clock fl_callsDone fl_sentInAll) ++ (v ++ ((wo_X1 cI cZ cr_h cr_ad cr_book cr_signed cr_size cr_latestPaper cr_paperBefore cr_paperLast cr_paperTold cr_papers cr_minutesHere cr_heres) ++ (wo_X0 cI cZ ca_h ca_ad ca_skill ca_days ca_wanted ca_named ca_minute ca_day ca_refusers ca_order ca_size)))) (mk_fr_mid _ _) (va_runVN (As := [.int x3, .int x1, .int x2]) (rest := [.int x3, .ref (fl_ad 9)]) ⟨hx, hb, hml, hown, hts⟩ (c_X4_said l D cI cZ E ru_h ru_ad ru_from ru_voted ru_undone ru_says ru_texts ru_lines x3 x1 x2 _ h H.size) ⟨va_cnB 3 hts gX2_work_X4_said_n61 rfl rfl rfl (hN.2 (RX2, 61, yX4_said, RX7) (List.mem_of_getElem? (i := 21) rfl)) (hts (.initialized RX4) (List.mem_of_getElem? (i := 7) rfl)) (by decide +kernel) ⟨Nat.le_of_ble_eq_true rfl, Nat.le_of_ble_eq_true rfl⟩, hts (.instanceMethod yX4_said) (List.mem_of_getElem? (i := 6) rfl), hts (.selects RX4 yX4_said yX4_said) (List.mem_of_getElem? (i := 8) rfl)⟩ (mk_preV (ci := 4) (mk_fr_mid _ _) hK hN hE hS hA hP hD rfl rfl) rfl rfl hl.1 rfl (lv_room (Nat.le_of_ble_eq_true rfl)) dX2_work_23 ⟨Nat.le_of_ble_eq_true rfl, Nat.le_of_ble_eq_true rfl⟩) hP hD hS hA (fun r22 u H locs h hP hD hS => ?_)
        try dsimp only at h
        have hP : va_P D vwCl ((wo_X2 cI cZ fl_h fl_ad ru_h cr_h ca_h fl_lists fl_listSize fl_job fl_jobLast fl_refusals fl_notes fl_laws fl_line fl_lineSize fl_clock fl_callsDone fl_sentInAll) ++ ((wo_X4 cI cZ ru_h ru_ad ru_from ru_voted ru_undone ru_says ru_texts ru_lines) ++ ((wo_X1 cI cZ cr_h cr_ad cr_book cr_signed cr_size cr_latestPaper cr_paperBefore cr_paperLast cr_paperTold cr_papers cr_minutesHere cr_heres) ++ (wo_X0 cI cZ ca_h ca_ad ca_skill ca_days ca_wanted ca_named ca_minute ca_day ca_refusers ca_order ca_size)))) H := hP
        have hD : va_D A ((wo_X2 cI cZ fl_h fl_ad ru_h cr_h ca_h fl_lists fl_listSize fl_job fl_jobLast fl_refusals fl_notes fl_laws fl_line fl_lineSize fl_clock fl_callsDone fl_sentInAll) ++ ((wo_X4 cI cZ ru_h ru_ad ru_from ru_voted ru_undone ru_says ru_texts ru_lines) ++ ((wo_X1 cI cZ cr_h cr_ad cr_book cr_signed cr_size cr_latestPaper cr_paperBefore cr_paperLast cr_paperTold cr_papers cr_minutesHere cr_heres) ++ (wo_X0 cI cZ ca_h ca_ad ca_skill ca_days ca_wanted ca_named ca_minute ca_day ca_refusers ca_order ca_size)))) := hD
        obtain ⟨hi_23, h⟩ := h
        refine va_iast hx hb hK hP hD hS 7 0 rfl rfl hi_23 dX2_work_26 (fun H locs hP hD hS => ?_)
        have hP : va_P D vwCl ((wo_X2 cI cZ fl_h fl_ad ru_h cr_h ca_h fl_lists fl_listSize fl_job fl_jobLast fl_refusals fl_notes (upd fl_laws (x3.toNatClampNeg) r22) fl_line fl_lineSize fl_clock fl_callsDone fl_sentInAll) ++ ((wo_X4 cI cZ ru_h ru_ad ru_from ru_voted ru_undone ru_says ru_texts ru_lines) ++ ((wo_X1 cI cZ cr_h cr_ad cr_book cr_signed cr_size cr_latestPaper cr_paperBefore cr_paperLast cr_paperTold cr_papers cr_minutesHere cr_heres) ++ (wo_X0 cI cZ ca_h ca_ad ca_skill ca_days ca_wanted ca_named ca_minute ca_day ca_refusers ca_order ca_size)))) H := hP
        have hD : va_D A ((wo_X2 cI cZ fl_h fl_ad ru_h cr_h ca_h fl_lists fl_listSize fl_job fl_jobLast fl_refusals fl_notes (upd fl_laws (x3.toNatClampNeg) r22) fl_line fl_lineSize fl_clock fl_callsDone fl_sentInAll) ++ ((wo_X4 cI cZ ru_h ru_ad ru_from ru_voted ru_undone ru_says ru_texts ru_lines) ++ ((wo_X1 cI cZ cr_h cr_ad cr_book cr_signed cr_size cr_latestPaper cr_paperBefore cr_paperLast cr_paperTold cr_papers cr_minutesHere cr_heres) ++ (wo_X0 cI cZ ca_h ca_ad ca_skill ca_days ca_wanted ca_named ca_minute ca_day ca_refusers ca_order ca_size)))) := hD
        obtain ⟨y24, e_y24⟩ : ∃ y : Int32, y = x3 + 1 := ⟨_, rfl⟩
        have h := h y24 e_y24
        refine lv_iinc (v := y24) (lv' := [(3, .int y24), (0, .ref fl_h), (1, .int x1), (2, .int x2)]) hx hb dX2_work_27 hl (k := 3) rfl (by rw [e_y24]; rfl) (by decide) rfl (fun ls hl => ?_)
        refine lv_goto (tgt := 2) hx hb dX2_work_30 (by decide) ?_
        exact ih (upd fl_laws (x3.toNatClampNeg) r22) y24 h _ _ _ hP hD hS (lv_sub hl [1, 2, 3, 0] rfl)
  refine lv_iconst (v := 0) hx hb dX2_work_0 (by decide) ?_
  refine lv_istore_n (lv' := [(3, .int 0), (0, .ref fl_h), (1, .int x1), (2, .int x2)]) hx hb dX2_work_1 rfl hl (by decide) rfl (fun ls hl => ?_)
  obtain ⟨n, h⟩ := h
  exact b2  n fl_laws 0 h _ _ _ hP hD hS (lv_sub hl [1, 2, 3, 0] rfl)
def rm_X2_outcomeNoted : Room := { frames := 0, cells := 0, slots := 0, locals := 0 }
theorem mi_X2_outcomeNoted_X2 : ∀ w ∈ wsX20, w ∈ wsX2_outcomeNoted := fun _ h => List.mem_cons_of_mem _ (List.mem_append_right _ h)
set_option maxHeartbeats 4000000 in
set_option maxRecDepth 100000 in
theorem c_X2_outcomeNoted (l : Launch) (D : va_G) (cI cZ : ClassId) (E : (Nat → Nat) × (Nat → Nat)) (fl_h : Nat) (fl_ad : Nat → Nat) (ru_h : Nat) (ru_ad : Nat → Nat) (cr_h : Nat) (cr_ad : Nat → Nat) (ca_h : Nat) (ca_ad : Nat → Nat) (fl_lists : (Nat → Int32)) (fl_listSize : (Nat → Int32)) (fl_job : (Nat → Int32)) (fl_jobLast : (Nat → Int32)) (fl_refusals : (Nat → Int32)) (fl_notes : (Nat → Int32)) (fl_laws : (Nat → Int32)) (fl_line : (Nat → Int32)) (fl_lineSize : Int32) (fl_clock : Int32) (fl_callsDone : Int32) (fl_sentInAll : Int32) (ru_from : (Nat → Int32)) (ru_voted : (Nat → Int32)) (ru_undone : (Nat → Int32)) (ru_says : (Nat → Int32)) (ru_texts : Int32) (ru_lines : Int32) (cr_book : (Nat → Int32)) (cr_signed : (Nat → Int32)) (cr_size : Int32) (cr_latestPaper : (Nat → Int32)) (cr_paperBefore : (Nat → Int32)) (cr_paperLast : (Nat → Int32)) (cr_paperTold : (Nat → Int32)) (cr_papers : Int32) (cr_minutesHere : (Nat → Int32)) (cr_heres : Int32) (ca_skill : (Nat → Int32)) (ca_days : (Nat → Int32)) (ca_wanted : (Nat → Int32)) (ca_named : (Nat → Int32)) (ca_minute : (Nat → Int32)) (ca_day : (Nat → Int32)) (ca_refusers : (Nat → Int32)) (ca_order : (Nat → Int32)) (ca_size : Int32) (x1 : Int32) (x2 : Int32) (K : (Int32 → Prop)) (h : wp_X2_outcomeNoted fl_notes x1 x2 K) : mk_Ci l D cI cZ E yX2_outcomeNoted wsX2_outcomeNoted rm_X2_outcomeNoted ([.ref fl_h, .int x1, .int x2] : List Value) ((wo_X2 cI cZ fl_h fl_ad ru_h cr_h ca_h fl_lists fl_listSize fl_job fl_jobLast fl_refusals fl_notes fl_laws fl_line fl_lineSize fl_clock fl_callsDone fl_sentInAll) ++ ((wo_X4 cI cZ ru_h ru_ad ru_from ru_voted ru_undone ru_says ru_texts ru_lines) ++ ((wo_X1 cI cZ cr_h cr_ad cr_book cr_signed cr_size cr_latestPaper cr_paperBefore cr_paperLast cr_paperTold cr_papers cr_minutesHere cr_heres) ++ (wo_X0 cI cZ ca_h ca_ad ca_skill ca_days ca_wanted ca_named ca_minute ca_day ca_refusers ca_order ca_size)))) (fun (u : Unit) => ((wo_X2 cI cZ fl_h fl_ad ru_h cr_h ca_h fl_lists fl_listSize fl_job fl_jobLast fl_refusals fl_notes fl_laws fl_line fl_lineSize fl_clock fl_callsDone fl_sentInAll) ++ ((wo_X4 cI cZ ru_h ru_ad ru_from ru_voted ru_undone ru_says ru_texts ru_lines) ++ ((wo_X1 cI cZ cr_h cr_ad cr_book cr_signed cr_size cr_latestPaper cr_paperBefore cr_paperLast cr_paperTold cr_papers cr_minutesHere cr_heres) ++ (wo_X0 cI cZ ca_h ca_ad ca_skill ca_days ca_wanted ca_named ca_minute ca_day ca_refusers ca_order ca_size))))) (fun (r : Int32) (u : Unit) => K r) := by
  intro sz
  refine Met.ofW (cc := cX2_outcomeNoted) (maxL := 3) (ret := (some .int)) (by decide) rfl ?_
  intro p e s m args below meth c s₁ B hml hv
  obtain ⟨rfl, hsz, hP, hK, hD0, hN, hE⟩ := hv
  have hx := B.exec
  have hb := B.bytes
  have hr := B.returns
  have hts := atoms_spec (ws := wsX2_outcomeNoted) B.pre
  have hown : s.vm.findClass RX2 = some m.cls := findClass_of_methodNamed B.named
  have hlocks := B.notSynchronized
  subst hsz
  have hD := hD0.self (sz := s.heap.size)
  generalize hAe : va_A ((wo_X2 cI cZ fl_h fl_ad ru_h cr_h ca_h fl_lists fl_listSize fl_job fl_jobLast fl_refusals fl_notes fl_laws fl_line fl_lineSize fl_clock fl_callsDone fl_sentInAll) ++ ((wo_X4 cI cZ ru_h ru_ad ru_from ru_voted ru_undone ru_says ru_texts ru_lines) ++ ((wo_X1 cI cZ cr_h cr_ad cr_book cr_signed cr_size cr_latestPaper cr_paperBefore cr_paperLast cr_paperTold cr_papers cr_minutesHere cr_heres) ++ (wo_X0 cI cZ ca_h ca_ad ca_skill ca_days ca_wanted ca_named ca_minute ca_day ca_refusers ca_order ca_size)))) s.heap.size = A at hD hE ⊢
  have hA : ∀ q : Nat, s.heap.size ≤ q → A q := fun q h => by rw [← hAe]; exact Or.inr h
  have hl := lv_entry ([.ref fl_h, .int x1, .int x2] : List Value) (n := 3) (Nat.le_of_ble_eq_true rfl)
  rw [lg_entry_eq]
  generalize (lg_sl ([.ref fl_h, .int x1, .int x2] : List Value) ++ List.replicate (3 - (lg_sl ([.ref fl_h, .int x1, .int x2] : List Value)).length) Slot.unset).toArray = ls at hl ⊢
  have hl : lv_has ls 3 [(0, .ref fl_h), (1, .int x1), (2, .int x2)] := hl
  refine mk_absQ (P := fun Q => W p l e _ s m _ below meth c s.heap [] 0 0 Q _) (fun Q hQ => ?_)
  refine mk_absH (P := fun H => W p l e _ s m _ below meth c H [] 0 0 Q _) (fun H hH => ?_)
  have hP : va_P D vwCl ((wo_X2 cI cZ fl_h fl_ad ru_h cr_h ca_h fl_lists fl_listSize fl_job fl_jobLast fl_refusals fl_notes fl_laws fl_line fl_lineSize fl_clock fl_callsDone fl_sentInAll) ++ ((wo_X4 cI cZ ru_h ru_ad ru_from ru_voted ru_undone ru_says ru_texts ru_lines) ++ ((wo_X1 cI cZ cr_h cr_ad cr_book cr_signed cr_size cr_latestPaper cr_paperBefore cr_paperLast cr_paperTold cr_papers cr_minutesHere cr_heres) ++ (wo_X0 cI cZ ca_h ca_ad ca_skill ca_days ca_wanted ca_named ca_minute ca_day ca_refusers ca_order ca_size)))) H := by rw [hH]; exact hP
  have hS : va_S A s.heap H [] := by rw [hH]; exact va_S.rf
  refine lv_aload_n hx hb dX2_outcomeNoted_0 rfl (lv_at hl 0 rfl) ?_
  refine va_get (D := D) (ci := 2) (v := .ref (fl_ad 8)) (C := RX2) (T := TX2) (N := 15) hx hb hts mi_X2_outcomeNoted_X2 hown hK hP 0 rfl rfl 8 (by decide) (hts (.fieldLink RX2 27 "HiringHall$Floor" "notes" "[I") (List.mem_of_getElem? (i := 1) rfl)) (fun _ h9 => h9) rfl dX2_outcomeNoted_1 ?_
  refine lv_iload_n hx hb dX2_outcomeNoted_4 rfl (lv_at hl 1 rfl) ?_
  refine lv_bipush (v := 16) hx hb dX2_outcomeNoted_5 (by decide) ?_
  refine lv_imul hx hb dX2_outcomeNoted_7 ?_
  refine lv_iload_n hx hb dX2_outcomeNoted_8 rfl (lv_at hl 2 rfl) ?_
  refine lv_iadd hx hb dX2_outcomeNoted_9 ?_
  obtain ⟨hi_1, h⟩ := h
  refine va_iald hx hb hK hP 6 0 rfl rfl hi_1 dX2_outcomeNoted_10 ?_
  refine lv_bipush (v := 8) hx hb dX2_outcomeNoted_11 (by decide) ?_
  refine lv_irem hx hb dX2_outcomeNoted_13 (by decide) ?_
  rw [hQ]
  exact W.iret (v := ((fl_notes (((x1 * 16) + x2).toNatClampNeg)) - (fl_notes (((x1 * 16) + x2).toNatClampNeg)) / 8 * 8)) hx hb hr (fun t ht hW => ⟨⟨((fl_notes (((x1 * 16) + x2).toNatClampNeg)) - (fl_notes (((x1 * 16) + x2).toNatClampNeg)) / 8 * 8), (), rfl, h, by rw [ht]; exact hP, va_K.moved hW.alike hK, hD⟩, hS.F ht⟩) hS.2.2 dX2_outcomeNoted_14
def rm_X2_clockNoted : Room := { frames := 1, cells := 0, slots := 0, locals := 22 }
theorem mi_X2_clockNoted_X2 : ∀ w ∈ wsX20, w ∈ wsX2_clockNoted := fun _ h => List.mem_cons_of_mem _ (List.mem_append_right _ h)
set_option maxHeartbeats 4000000 in
set_option maxRecDepth 100000 in
theorem c_X2_clockNoted (l : Launch) (D : va_G) (cI cZ : ClassId) (E : (Nat → Nat) × (Nat → Nat)) (fl_h : Nat) (fl_ad : Nat → Nat) (ru_h : Nat) (ru_ad : Nat → Nat) (cr_h : Nat) (cr_ad : Nat → Nat) (ca_h : Nat) (ca_ad : Nat → Nat) (fl_lists : (Nat → Int32)) (fl_listSize : (Nat → Int32)) (fl_job : (Nat → Int32)) (fl_jobLast : (Nat → Int32)) (fl_refusals : (Nat → Int32)) (fl_notes : (Nat → Int32)) (fl_laws : (Nat → Int32)) (fl_line : (Nat → Int32)) (fl_lineSize : Int32) (fl_clock : Int32) (fl_callsDone : Int32) (fl_sentInAll : Int32) (ru_from : (Nat → Int32)) (ru_voted : (Nat → Int32)) (ru_undone : (Nat → Int32)) (ru_says : (Nat → Int32)) (ru_texts : Int32) (ru_lines : Int32) (cr_book : (Nat → Int32)) (cr_signed : (Nat → Int32)) (cr_size : Int32) (cr_latestPaper : (Nat → Int32)) (cr_paperBefore : (Nat → Int32)) (cr_paperLast : (Nat → Int32)) (cr_paperTold : (Nat → Int32)) (cr_papers : Int32) (cr_minutesHere : (Nat → Int32)) (cr_heres : Int32) (ca_skill : (Nat → Int32)) (ca_days : (Nat → Int32)) (ca_wanted : (Nat → Int32)) (ca_named : (Nat → Int32)) (ca_minute : (Nat → Int32)) (ca_day : (Nat → Int32)) (ca_refusers : (Nat → Int32)) (ca_order : (Nat → Int32)) (ca_size : Int32) (x1 : Int32) (x2 : Int32) (K : (Int32 → Prop)) (h : wp_X2_clockNoted fl_notes x1 x2 K) : mk_Ci l D cI cZ E yX2_clockNoted wsX2_clockNoted rm_X2_clockNoted ([.ref fl_h, .int x1, .int x2] : List Value) ((wo_X2 cI cZ fl_h fl_ad ru_h cr_h ca_h fl_lists fl_listSize fl_job fl_jobLast fl_refusals fl_notes fl_laws fl_line fl_lineSize fl_clock fl_callsDone fl_sentInAll) ++ ((wo_X4 cI cZ ru_h ru_ad ru_from ru_voted ru_undone ru_says ru_texts ru_lines) ++ ((wo_X1 cI cZ cr_h cr_ad cr_book cr_signed cr_size cr_latestPaper cr_paperBefore cr_paperLast cr_paperTold cr_papers cr_minutesHere cr_heres) ++ (wo_X0 cI cZ ca_h ca_ad ca_skill ca_days ca_wanted ca_named ca_minute ca_day ca_refusers ca_order ca_size)))) (fun (u : Unit) => ((wo_X2 cI cZ fl_h fl_ad ru_h cr_h ca_h fl_lists fl_listSize fl_job fl_jobLast fl_refusals fl_notes fl_laws fl_line fl_lineSize fl_clock fl_callsDone fl_sentInAll) ++ ((wo_X4 cI cZ ru_h ru_ad ru_from ru_voted ru_undone ru_says ru_texts ru_lines) ++ ((wo_X1 cI cZ cr_h cr_ad cr_book cr_signed cr_size cr_latestPaper cr_paperBefore cr_paperLast cr_paperTold cr_papers cr_minutesHere cr_heres) ++ (wo_X0 cI cZ ca_h ca_ad ca_skill ca_days ca_wanted ca_named ca_minute ca_day ca_refusers ca_order ca_size))))) (fun (r : Int32) (u : Unit) => K r) := by
  intro sz
  refine Met.ofW (cc := cX2_clockNoted) (maxL := 5) (ret := (some .int)) (by decide) rfl ?_
  intro p e s m args below meth c s₁ B hml hv
  obtain ⟨rfl, hsz, hP, hK, hD0, hN, hE⟩ := hv
  have hx := B.exec
  have hb := B.bytes
  have hr := B.returns
  have hts := atoms_spec (ws := wsX2_clockNoted) B.pre
  have hown : s.vm.findClass RX2 = some m.cls := findClass_of_methodNamed B.named
  have hlocks := B.notSynchronized
  subst hsz
  have hD := hD0.self (sz := s.heap.size)
  generalize hAe : va_A ((wo_X2 cI cZ fl_h fl_ad ru_h cr_h ca_h fl_lists fl_listSize fl_job fl_jobLast fl_refusals fl_notes fl_laws fl_line fl_lineSize fl_clock fl_callsDone fl_sentInAll) ++ ((wo_X4 cI cZ ru_h ru_ad ru_from ru_voted ru_undone ru_says ru_texts ru_lines) ++ ((wo_X1 cI cZ cr_h cr_ad cr_book cr_signed cr_size cr_latestPaper cr_paperBefore cr_paperLast cr_paperTold cr_papers cr_minutesHere cr_heres) ++ (wo_X0 cI cZ ca_h ca_ad ca_skill ca_days ca_wanted ca_named ca_minute ca_day ca_refusers ca_order ca_size)))) s.heap.size = A at hD hE ⊢
  have hA : ∀ q : Nat, s.heap.size ≤ q → A q := fun q h => by rw [← hAe]; exact Or.inr h
  have hl := lv_entry ([.ref fl_h, .int x1, .int x2] : List Value) (n := 5) (Nat.le_of_ble_eq_true rfl)
  rw [lg_entry_eq]
  generalize (lg_sl ([.ref fl_h, .int x1, .int x2] : List Value) ++ List.replicate (5 - (lg_sl ([.ref fl_h, .int x1, .int x2] : List Value)).length) Slot.unset).toArray = ls at hl ⊢
  have hl : lv_has ls 5 [(0, .ref fl_h), (1, .int x1), (2, .int x2)] := hl
  refine mk_absQ (P := fun Q => W p l e _ s m _ below meth c s.heap [] 0 0 Q _) (fun Q hQ => ?_)
  refine mk_absH (P := fun H => W p l e _ s m _ below meth c H [] 0 0 Q _) (fun H hH => ?_)
  have hP : va_P D vwCl ((wo_X2 cI cZ fl_h fl_ad ru_h cr_h ca_h fl_lists fl_listSize fl_job fl_jobLast fl_refusals fl_notes fl_laws fl_line fl_lineSize fl_clock fl_callsDone fl_sentInAll) ++ ((wo_X4 cI cZ ru_h ru_ad ru_from ru_voted ru_undone ru_says ru_texts ru_lines) ++ ((wo_X1 cI cZ cr_h cr_ad cr_book cr_signed cr_size cr_latestPaper cr_paperBefore cr_paperLast cr_paperTold cr_papers cr_minutesHere cr_heres) ++ (wo_X0 cI cZ ca_h ca_ad ca_skill ca_days ca_wanted ca_named ca_minute ca_day ca_refusers ca_order ca_size)))) H := by rw [hH]; exact hP
  have hS : va_S A s.heap H [] := by rw [hH]; exact va_S.rf
  have b22 : ∀ (t0 : Int32), wp_X2_clockNoted_b22 K fl_notes x1 x2 t0 → ∀ (H : Heap) (locs : List Loc) (ls : Array Slot), va_P D vwCl ((wo_X2 cI cZ fl_h fl_ad ru_h cr_h ca_h fl_lists fl_listSize fl_job fl_jobLast fl_refusals fl_notes fl_laws fl_line fl_lineSize fl_clock fl_callsDone fl_sentInAll) ++ ((wo_X4 cI cZ ru_h ru_ad ru_from ru_voted ru_undone ru_says ru_texts ru_lines) ++ ((wo_X1 cI cZ cr_h cr_ad cr_book cr_signed cr_size cr_latestPaper cr_paperBefore cr_paperLast cr_paperTold cr_papers cr_minutesHere cr_heres) ++ (wo_X0 cI cZ ca_h ca_ad ca_skill ca_days ca_wanted ca_named ca_minute ca_day ca_refusers ca_order ca_size)))) H → va_D A ((wo_X2 cI cZ fl_h fl_ad ru_h cr_h ca_h fl_lists fl_listSize fl_job fl_jobLast fl_refusals fl_notes fl_laws fl_line fl_lineSize fl_clock fl_callsDone fl_sentInAll) ++ ((wo_X4 cI cZ ru_h ru_ad ru_from ru_voted ru_undone ru_says ru_texts ru_lines) ++ ((wo_X1 cI cZ cr_h cr_ad cr_book cr_signed cr_size cr_latestPaper cr_paperBefore cr_paperLast cr_paperTold cr_papers cr_minutesHere cr_heres) ++ (wo_X0 cI cZ ca_h ca_ad ca_skill ca_days ca_wanted ca_named ca_minute ca_day ca_refusers ca_order ca_size)))) → va_S A s.heap H locs → lv_has ls 5 [(0, .ref fl_h), (1, .int x1), (2, .int x2)] → W p l e (headSpec wsX2_clockNoted rm_X2_clockNoted).room s m ([.ref fl_h, .int x1, .int x2] : List Value).toArray below meth c H locs 0 0 Q (F0 m 22 ls [.int t0]) := by
    intro t0 h H locs ls hP hD hS hl
    refine lv_istore (lv' := [(4, .int t0), (0, .ref fl_h), (1, .int x1), (2, .int x2)]) hx hb dX2_clockNoted_22 hl (by decide) rfl (fun ls hl => ?_)
    refine lv_iload hx hb dX2_clockNoted_24 (lv_at hl 0 rfl) ?_
    refine lv_if_eq (tgt := 46) hx hb dX2_clockNoted_26 (by decide) (fun c_1 => ?_) (fun c_1 => ?_)
    · have h := h.1 c_1
      refine lv_iconst (v := (-1)) hx hb dX2_clockNoted_46 (by decide) ?_
      rw [hQ]
      exact W.iret (v := (-1)) hx hb hr (fun t ht hW => ⟨⟨(-1), (), rfl, h, by rw [ht]; exact hP, va_K.moved hW.alike hK, hD⟩, hS.F ht⟩) hS.2.2 dX2_clockNoted_47
    · have h := h.2 c_1
      refine lv_aload_n hx hb dX2_clockNoted_29 rfl (lv_at hl 1 rfl) ?_
      refine va_get (D := D) (ci := 2) (v := .ref (fl_ad 8)) (C := RX2) (T := TX2) (N := 15) hx hb hts mi_X2_clockNoted_X2 hown hK hP 0 rfl rfl 8 (by decide) (hts (.fieldLink RX2 27 "HiringHall$Floor" "notes" "[I") (List.mem_of_getElem? (i := 1) rfl)) (fun _ h9 => h9) rfl dX2_clockNoted_30 ?_
      refine lv_iload_n hx hb dX2_clockNoted_33 rfl (lv_at hl 2 rfl) ?_
      refine lv_bipush (v := 16) hx hb dX2_clockNoted_34 (by decide) ?_
      refine lv_imul hx hb dX2_clockNoted_36 ?_
      refine lv_iload_n hx hb dX2_clockNoted_37 rfl (lv_at hl 3 rfl) ?_
      refine lv_iadd hx hb dX2_clockNoted_38 ?_
      obtain ⟨hi_2, h⟩ := h
      refine va_iald hx hb hK hP 6 0 rfl rfl hi_2 dX2_clockNoted_39 ?_
      refine lv_bipush (v := 8) hx hb dX2_clockNoted_40 (by decide) ?_
      refine lv_idiv hx hb dX2_clockNoted_42 (by decide) ?_
      refine lv_goto (tgt := 47) hx hb dX2_clockNoted_43 (by decide) ?_
      rw [hQ]
      exact W.iret (v := ((fl_notes (((x1 * 16) + x2).toNatClampNeg)) / 8)) hx hb hr (fun t ht hW => ⟨⟨((fl_notes (((x1 * 16) + x2).toNatClampNeg)) / 8), (), rfl, h, by rw [ht]; exact hP, va_K.moved hW.alike hK, hD⟩, hS.F ht⟩) hS.2.2 dX2_clockNoted_47
  have b21 : wp_X2_clockNoted_b21 K fl_notes x1 x2  → ∀ (H : Heap) (locs : List Loc) (ls : Array Slot), va_P D vwCl ((wo_X2 cI cZ fl_h fl_ad ru_h cr_h ca_h fl_lists fl_listSize fl_job fl_jobLast fl_refusals fl_notes fl_laws fl_line fl_lineSize fl_clock fl_callsDone fl_sentInAll) ++ ((wo_X4 cI cZ ru_h ru_ad ru_from ru_voted ru_undone ru_says ru_texts ru_lines) ++ ((wo_X1 cI cZ cr_h cr_ad cr_book cr_signed cr_size cr_latestPaper cr_paperBefore cr_paperLast cr_paperTold cr_papers cr_minutesHere cr_heres) ++ (wo_X0 cI cZ ca_h ca_ad ca_skill ca_days ca_wanted ca_named ca_minute ca_day ca_refusers ca_order ca_size)))) H → va_D A ((wo_X2 cI cZ fl_h fl_ad ru_h cr_h ca_h fl_lists fl_listSize fl_job fl_jobLast fl_refusals fl_notes fl_laws fl_line fl_lineSize fl_clock fl_callsDone fl_sentInAll) ++ ((wo_X4 cI cZ ru_h ru_ad ru_from ru_voted ru_undone ru_says ru_texts ru_lines) ++ ((wo_X1 cI cZ cr_h cr_ad cr_book cr_signed cr_size cr_latestPaper cr_paperBefore cr_paperLast cr_paperTold cr_papers cr_minutesHere cr_heres) ++ (wo_X0 cI cZ ca_h ca_ad ca_skill ca_days ca_wanted ca_named ca_minute ca_day ca_refusers ca_order ca_size)))) → va_S A s.heap H locs → lv_has ls 5 [(0, .ref fl_h), (1, .int x1), (2, .int x2)] → W p l e (headSpec wsX2_clockNoted rm_X2_clockNoted).room s m ([.ref fl_h, .int x1, .int x2] : List Value).toArray below meth c H locs 0 0 Q (F0 m 21 ls []) := by
    intro h H locs ls hP hD hS hl
    refine lv_iconst (v := 0) hx hb dX2_clockNoted_21 (by decide) ?_
    exact b22  0 h _ _ _ hP hD hS (lv_sub hl [0, 1, 2] rfl)
  refine lv_aload_n hx hb dX2_clockNoted_0 rfl (lv_at hl 0 rfl) ?_
  refine lv_iload_n hx hb dX2_clockNoted_1 rfl (lv_at hl 1 rfl) ?_
  refine lv_iload_n hx hb dX2_clockNoted_2 rfl (lv_at hl 2 rfl) ?_
  have hP : va_P D vwCl ((fun v => v) ((wo_X2 cI cZ fl_h fl_ad ru_h cr_h ca_h fl_lists fl_listSize fl_job fl_jobLast fl_refusals fl_notes fl_laws fl_line fl_lineSize fl_clock fl_callsDone fl_sentInAll) ++ ((wo_X4 cI cZ ru_h ru_ad ru_from ru_voted ru_undone ru_says ru_texts ru_lines) ++ ((wo_X1 cI cZ cr_h cr_ad cr_book cr_signed cr_size cr_latestPaper cr_paperBefore cr_paperLast cr_paperTold cr_papers cr_minutesHere cr_heres) ++ (wo_X0 cI cZ ca_h ca_ad ca_skill ca_days ca_wanted ca_named ca_minute ca_day ca_refusers ca_order ca_size))))) H := hP
  have hD : va_D A ((fun v => v) ((wo_X2 cI cZ fl_h fl_ad ru_h cr_h ca_h fl_lists fl_listSize fl_job fl_jobLast fl_refusals fl_notes fl_laws fl_line fl_lineSize fl_clock fl_callsDone fl_sentInAll) ++ ((wo_X4 cI cZ ru_h ru_ad ru_from ru_voted ru_undone ru_says ru_texts ru_lines) ++ ((wo_X1 cI cZ cr_h cr_ad cr_book cr_signed cr_size cr_latestPaper cr_paperBefore cr_paperLast cr_paperTold cr_papers cr_minutesHere cr_heres) ++ (wo_X0 cI cZ ca_h ca_ad ca_skill ca_days ca_wanted ca_named ca_minute ca_day ca_refusers ca_order ca_size))))) := hD
  refine mk_ci (f := fun v => v) mk_fr_id (va_runV (As := [.int x1, .int x2]) (rest := []) ⟨hx, hb, hml, hown, hts⟩ (c_X2_outcomeNoted l D cI cZ E fl_h fl_ad ru_h ru_ad cr_h cr_ad ca_h ca_ad fl_lists fl_listSize fl_job fl_jobLast fl_refusals fl_notes fl_laws fl_line fl_lineSize fl_clock fl_callsDone fl_sentInAll ru_from ru_voted ru_undone ru_says ru_texts ru_lines cr_book cr_signed cr_size cr_latestPaper cr_paperBefore cr_paperLast cr_paperTold cr_papers cr_minutesHere cr_heres ca_skill ca_days ca_wanted ca_named ca_minute ca_day ca_refusers ca_order ca_size x1 x2 _ h H.size) (cwV 2 hts gX2_clockNoted_X2_outcomeNoted rfl rfl rfl (by decide +kernel) ⟨Nat.le_of_ble_eq_true rfl, Nat.le_of_ble_eq_true rfl⟩) (mk_preV (ci := 2) mk_fr_id hK hN hE hS hA hP hD rfl rfl) rfl rfl hl.1 rfl (lv_room (Nat.le_of_ble_eq_true rfl)) dX2_clockNoted_3 ⟨Nat.le_of_ble_eq_true rfl, Nat.le_of_ble_eq_true rfl⟩) hP hD hS hA (fun r3 u H locs h hP hD hS => ?_)
  try dsimp only at h
  have hP : va_P D vwCl ((wo_X2 cI cZ fl_h fl_ad ru_h cr_h ca_h fl_lists fl_listSize fl_job fl_jobLast fl_refusals fl_notes fl_laws fl_line fl_lineSize fl_clock fl_callsDone fl_sentInAll) ++ ((wo_X4 cI cZ ru_h ru_ad ru_from ru_voted ru_undone ru_says ru_texts ru_lines) ++ ((wo_X1 cI cZ cr_h cr_ad cr_book cr_signed cr_size cr_latestPaper cr_paperBefore cr_paperLast cr_paperTold cr_papers cr_minutesHere cr_heres) ++ (wo_X0 cI cZ ca_h ca_ad ca_skill ca_days ca_wanted ca_named ca_minute ca_day ca_refusers ca_order ca_size)))) H := hP
  have hD : va_D A ((wo_X2 cI cZ fl_h fl_ad ru_h cr_h ca_h fl_lists fl_listSize fl_job fl_jobLast fl_refusals fl_notes fl_laws fl_line fl_lineSize fl_clock fl_callsDone fl_sentInAll) ++ ((wo_X4 cI cZ ru_h ru_ad ru_from ru_voted ru_undone ru_says ru_texts ru_lines) ++ ((wo_X1 cI cZ cr_h cr_ad cr_book cr_signed cr_size cr_latestPaper cr_paperBefore cr_paperLast cr_paperTold cr_papers cr_minutesHere cr_heres) ++ (wo_X0 cI cZ ca_h ca_ad ca_skill ca_days ca_wanted ca_named ca_minute ca_day ca_refusers ca_order ca_size)))) := hD
  refine lv_istore_n (lv' := [(3, .int r3), (0, .ref fl_h), (1, .int x1), (2, .int x2)]) hx hb dX2_clockNoted_6 rfl hl (by decide) rfl (fun ls hl => ?_)
  refine lv_iload_n hx hb dX2_clockNoted_7 rfl (lv_at hl 0 rfl) ?_
  refine lv_if_eq (tgt := 21) hx hb dX2_clockNoted_8 (by decide) (fun c_4 => ?_) (fun c_4 => ?_)
  · have h := h.1 c_4
    exact b21   h _ _ _ hP hD hS (lv_sub hl [1, 2, 3] rfl)
  · have h := h.2 c_4
    refine lv_iload_n hx hb dX2_clockNoted_11 rfl (lv_at hl 0 rfl) ?_
    refine lv_bipush (v := 6) hx hb dX2_clockNoted_12 (by decide) ?_
    refine lv_icmp_eq (tgt := 21) hx hb dX2_clockNoted_14 (by decide) (fun c_5 => ?_) (fun c_5 => ?_)
    · have h := h.1 c_5
      exact b21   h _ _ _ hP hD hS (lv_sub hl [1, 2, 3] rfl)
    · have h := h.2 c_5
      refine lv_iconst (v := 1) hx hb dX2_clockNoted_17 (by decide) ?_
      refine lv_goto (tgt := 22) hx hb dX2_clockNoted_18 (by decide) ?_
      exact b22  1 h _ _ _ hP hD hS (lv_sub hl [1, 2, 3] rfl)
def rm_X2_wasSent : Room := { frames := 1, cells := 0, slots := 0, locals := 22 }
set_option maxHeartbeats 4000000 in
set_option maxRecDepth 100000 in
theorem c_X2_wasSent (l : Launch) (D : va_G) (cI cZ : ClassId) (E : (Nat → Nat) × (Nat → Nat)) (fl_h : Nat) (fl_ad : Nat → Nat) (ru_h : Nat) (ru_ad : Nat → Nat) (cr_h : Nat) (cr_ad : Nat → Nat) (ca_h : Nat) (ca_ad : Nat → Nat) (fl_lists : (Nat → Int32)) (fl_listSize : (Nat → Int32)) (fl_job : (Nat → Int32)) (fl_jobLast : (Nat → Int32)) (fl_refusals : (Nat → Int32)) (fl_notes : (Nat → Int32)) (fl_laws : (Nat → Int32)) (fl_line : (Nat → Int32)) (fl_lineSize : Int32) (fl_clock : Int32) (fl_callsDone : Int32) (fl_sentInAll : Int32) (ru_from : (Nat → Int32)) (ru_voted : (Nat → Int32)) (ru_undone : (Nat → Int32)) (ru_says : (Nat → Int32)) (ru_texts : Int32) (ru_lines : Int32) (cr_book : (Nat → Int32)) (cr_signed : (Nat → Int32)) (cr_size : Int32) (cr_latestPaper : (Nat → Int32)) (cr_paperBefore : (Nat → Int32)) (cr_paperLast : (Nat → Int32)) (cr_paperTold : (Nat → Int32)) (cr_papers : Int32) (cr_minutesHere : (Nat → Int32)) (cr_heres : Int32) (ca_skill : (Nat → Int32)) (ca_days : (Nat → Int32)) (ca_wanted : (Nat → Int32)) (ca_named : (Nat → Int32)) (ca_minute : (Nat → Int32)) (ca_day : (Nat → Int32)) (ca_refusers : (Nat → Int32)) (ca_order : (Nat → Int32)) (ca_size : Int32) (x1 : Int32) (x2 : Int32) (K : (Int32 → Prop)) (h : wp_X2_wasSent fl_notes x1 x2 K) : mk_Ci l D cI cZ E yX2_wasSent wsX2_wasSent rm_X2_wasSent ([.ref fl_h, .int x1, .int x2] : List Value) ((wo_X2 cI cZ fl_h fl_ad ru_h cr_h ca_h fl_lists fl_listSize fl_job fl_jobLast fl_refusals fl_notes fl_laws fl_line fl_lineSize fl_clock fl_callsDone fl_sentInAll) ++ ((wo_X4 cI cZ ru_h ru_ad ru_from ru_voted ru_undone ru_says ru_texts ru_lines) ++ ((wo_X1 cI cZ cr_h cr_ad cr_book cr_signed cr_size cr_latestPaper cr_paperBefore cr_paperLast cr_paperTold cr_papers cr_minutesHere cr_heres) ++ (wo_X0 cI cZ ca_h ca_ad ca_skill ca_days ca_wanted ca_named ca_minute ca_day ca_refusers ca_order ca_size)))) (fun (u : Unit) => ((wo_X2 cI cZ fl_h fl_ad ru_h cr_h ca_h fl_lists fl_listSize fl_job fl_jobLast fl_refusals fl_notes fl_laws fl_line fl_lineSize fl_clock fl_callsDone fl_sentInAll) ++ ((wo_X4 cI cZ ru_h ru_ad ru_from ru_voted ru_undone ru_says ru_texts ru_lines) ++ ((wo_X1 cI cZ cr_h cr_ad cr_book cr_signed cr_size cr_latestPaper cr_paperBefore cr_paperLast cr_paperTold cr_papers cr_minutesHere cr_heres) ++ (wo_X0 cI cZ ca_h ca_ad ca_skill ca_days ca_wanted ca_named ca_minute ca_day ca_refusers ca_order ca_size))))) (fun (r : Int32) (u : Unit) => K r) := by
  intro sz
  refine Met.ofW (cc := cX2_wasSent) (maxL := 3) (ret := (some .boolean)) (by decide) rfl ?_
  intro p e s m args below meth c s₁ B hml hv
  obtain ⟨rfl, hsz, hP, hK, hD0, hN, hE⟩ := hv
  have hx := B.exec
  have hb := B.bytes
  have hr := B.returns
  have hts := atoms_spec (ws := wsX2_wasSent) B.pre
  have hown : s.vm.findClass RX2 = some m.cls := findClass_of_methodNamed B.named
  have hlocks := B.notSynchronized
  subst hsz
  have hD := hD0.self (sz := s.heap.size)
  generalize hAe : va_A ((wo_X2 cI cZ fl_h fl_ad ru_h cr_h ca_h fl_lists fl_listSize fl_job fl_jobLast fl_refusals fl_notes fl_laws fl_line fl_lineSize fl_clock fl_callsDone fl_sentInAll) ++ ((wo_X4 cI cZ ru_h ru_ad ru_from ru_voted ru_undone ru_says ru_texts ru_lines) ++ ((wo_X1 cI cZ cr_h cr_ad cr_book cr_signed cr_size cr_latestPaper cr_paperBefore cr_paperLast cr_paperTold cr_papers cr_minutesHere cr_heres) ++ (wo_X0 cI cZ ca_h ca_ad ca_skill ca_days ca_wanted ca_named ca_minute ca_day ca_refusers ca_order ca_size)))) s.heap.size = A at hD hE ⊢
  have hA : ∀ q : Nat, s.heap.size ≤ q → A q := fun q h => by rw [← hAe]; exact Or.inr h
  have hl := lv_entry ([.ref fl_h, .int x1, .int x2] : List Value) (n := 3) (Nat.le_of_ble_eq_true rfl)
  rw [lg_entry_eq]
  generalize (lg_sl ([.ref fl_h, .int x1, .int x2] : List Value) ++ List.replicate (3 - (lg_sl ([.ref fl_h, .int x1, .int x2] : List Value)).length) Slot.unset).toArray = ls at hl ⊢
  have hl : lv_has ls 3 [(0, .ref fl_h), (1, .int x1), (2, .int x2)] := hl
  refine mk_absQ (P := fun Q => W p l e _ s m _ below meth c s.heap [] 0 0 Q _) (fun Q hQ => ?_)
  refine mk_absH (P := fun H => W p l e _ s m _ below meth c H [] 0 0 Q _) (fun H hH => ?_)
  have hP : va_P D vwCl ((wo_X2 cI cZ fl_h fl_ad ru_h cr_h ca_h fl_lists fl_listSize fl_job fl_jobLast fl_refusals fl_notes fl_laws fl_line fl_lineSize fl_clock fl_callsDone fl_sentInAll) ++ ((wo_X4 cI cZ ru_h ru_ad ru_from ru_voted ru_undone ru_says ru_texts ru_lines) ++ ((wo_X1 cI cZ cr_h cr_ad cr_book cr_signed cr_size cr_latestPaper cr_paperBefore cr_paperLast cr_paperTold cr_papers cr_minutesHere cr_heres) ++ (wo_X0 cI cZ ca_h ca_ad ca_skill ca_days ca_wanted ca_named ca_minute ca_day ca_refusers ca_order ca_size)))) H := by rw [hH]; exact hP
  have hS : va_S A s.heap H [] := by rw [hH]; exact va_S.rf
  refine lv_aload_n hx hb dX2_wasSent_0 rfl (lv_at hl 0 rfl) ?_
  refine lv_iload_n hx hb dX2_wasSent_1 rfl (lv_at hl 1 rfl) ?_
  refine lv_iload_n hx hb dX2_wasSent_2 rfl (lv_at hl 2 rfl) ?_
  have hP : va_P D vwCl ((fun v => v) ((wo_X2 cI cZ fl_h fl_ad ru_h cr_h ca_h fl_lists fl_listSize fl_job fl_jobLast fl_refusals fl_notes fl_laws fl_line fl_lineSize fl_clock fl_callsDone fl_sentInAll) ++ ((wo_X4 cI cZ ru_h ru_ad ru_from ru_voted ru_undone ru_says ru_texts ru_lines) ++ ((wo_X1 cI cZ cr_h cr_ad cr_book cr_signed cr_size cr_latestPaper cr_paperBefore cr_paperLast cr_paperTold cr_papers cr_minutesHere cr_heres) ++ (wo_X0 cI cZ ca_h ca_ad ca_skill ca_days ca_wanted ca_named ca_minute ca_day ca_refusers ca_order ca_size))))) H := hP
  have hD : va_D A ((fun v => v) ((wo_X2 cI cZ fl_h fl_ad ru_h cr_h ca_h fl_lists fl_listSize fl_job fl_jobLast fl_refusals fl_notes fl_laws fl_line fl_lineSize fl_clock fl_callsDone fl_sentInAll) ++ ((wo_X4 cI cZ ru_h ru_ad ru_from ru_voted ru_undone ru_says ru_texts ru_lines) ++ ((wo_X1 cI cZ cr_h cr_ad cr_book cr_signed cr_size cr_latestPaper cr_paperBefore cr_paperLast cr_paperTold cr_papers cr_minutesHere cr_heres) ++ (wo_X0 cI cZ ca_h ca_ad ca_skill ca_days ca_wanted ca_named ca_minute ca_day ca_refusers ca_order ca_size))))) := hD
  refine mk_ci (f := fun v => v) mk_fr_id (va_runV (As := [.int x1, .int x2]) (rest := []) ⟨hx, hb, hml, hown, hts⟩ (c_X2_outcomeNoted l D cI cZ E fl_h fl_ad ru_h ru_ad cr_h cr_ad ca_h ca_ad fl_lists fl_listSize fl_job fl_jobLast fl_refusals fl_notes fl_laws fl_line fl_lineSize fl_clock fl_callsDone fl_sentInAll ru_from ru_voted ru_undone ru_says ru_texts ru_lines cr_book cr_signed cr_size cr_latestPaper cr_paperBefore cr_paperLast cr_paperTold cr_papers cr_minutesHere cr_heres ca_skill ca_days ca_wanted ca_named ca_minute ca_day ca_refusers ca_order ca_size x1 x2 _ h H.size) (cwV 2 hts gX2_wasSent_X2_outcomeNoted rfl rfl rfl (by decide +kernel) ⟨Nat.le_of_ble_eq_true rfl, Nat.le_of_ble_eq_true rfl⟩) (mk_preV (ci := 2) mk_fr_id hK hN hE hS hA hP hD rfl rfl) rfl rfl hl.1 rfl (lv_room (Nat.le_of_ble_eq_true rfl)) dX2_wasSent_3 ⟨Nat.le_of_ble_eq_true rfl, Nat.le_of_ble_eq_true rfl⟩) hP hD hS hA (fun r1 u H locs h hP hD hS => ?_)
  try dsimp only at h
  have hP : va_P D vwCl ((wo_X2 cI cZ fl_h fl_ad ru_h cr_h ca_h fl_lists fl_listSize fl_job fl_jobLast fl_refusals fl_notes fl_laws fl_line fl_lineSize fl_clock fl_callsDone fl_sentInAll) ++ ((wo_X4 cI cZ ru_h ru_ad ru_from ru_voted ru_undone ru_says ru_texts ru_lines) ++ ((wo_X1 cI cZ cr_h cr_ad cr_book cr_signed cr_size cr_latestPaper cr_paperBefore cr_paperLast cr_paperTold cr_papers cr_minutesHere cr_heres) ++ (wo_X0 cI cZ ca_h ca_ad ca_skill ca_days ca_wanted ca_named ca_minute ca_day ca_refusers ca_order ca_size)))) H := hP
  have hD : va_D A ((wo_X2 cI cZ fl_h fl_ad ru_h cr_h ca_h fl_lists fl_listSize fl_job fl_jobLast fl_refusals fl_notes fl_laws fl_line fl_lineSize fl_clock fl_callsDone fl_sentInAll) ++ ((wo_X4 cI cZ ru_h ru_ad ru_from ru_voted ru_undone ru_says ru_texts ru_lines) ++ ((wo_X1 cI cZ cr_h cr_ad cr_book cr_signed cr_size cr_latestPaper cr_paperBefore cr_paperLast cr_paperTold cr_papers cr_minutesHere cr_heres) ++ (wo_X0 cI cZ ca_h ca_ad ca_skill ca_days ca_wanted ca_named ca_minute ca_day ca_refusers ca_order ca_size)))) := hD
  refine lv_iconst (v := 5) hx hb dX2_wasSent_6 (by decide) ?_
  refine lv_icmp_ne (tgt := 14) hx hb dX2_wasSent_7 (by decide) (fun c_2 => ?_) (fun c_2 => ?_)
  · have h := h.1 c_2
    refine lv_iconst (v := 0) hx hb dX2_wasSent_14 (by decide) ?_
    rw [hQ]
    exact W.zret (v := 0) hx hb hr rfl (fun t ht hW => ⟨⟨0, (), rfl, h, by rw [ht]; exact hP, va_K.moved hW.alike hK, hD⟩, hS.F ht⟩) hS.2.2 dX2_wasSent_15
  · have h := h.2 c_2
    refine lv_iconst (v := 1) hx hb dX2_wasSent_10 (by decide) ?_
    refine lv_goto (tgt := 15) hx hb dX2_wasSent_11 (by decide) ?_
    rw [hQ]
    exact W.zret (v := 1) hx hb hr rfl (fun t ht hW => ⟨⟨1, (), rfl, h, by rw [ht]; exact hP, va_K.moved hW.alike hK, hD⟩, hS.F ht⟩) hS.2.2 dX2_wasSent_15
def rm_X2_freeOnList : Room := { frames := 0, cells := 0, slots := 0, locals := 0 }
theorem mi_X2_freeOnList_X2 : ∀ w ∈ wsX20, w ∈ wsX2_freeOnList := fun _ h => List.mem_cons_of_mem _ (List.mem_append_right _ h)
set_option maxHeartbeats 4000000 in
set_option maxRecDepth 100000 in
theorem c_X2_freeOnList (l : Launch) (D : va_G) (cI cZ : ClassId) (E : (Nat → Nat) × (Nat → Nat)) (fl_h : Nat) (fl_ad : Nat → Nat) (ru_h : Nat) (ru_ad : Nat → Nat) (cr_h : Nat) (cr_ad : Nat → Nat) (ca_h : Nat) (ca_ad : Nat → Nat) (fl_lists : (Nat → Int32)) (fl_listSize : (Nat → Int32)) (fl_job : (Nat → Int32)) (fl_jobLast : (Nat → Int32)) (fl_refusals : (Nat → Int32)) (fl_notes : (Nat → Int32)) (fl_laws : (Nat → Int32)) (fl_line : (Nat → Int32)) (fl_lineSize : Int32) (fl_clock : Int32) (fl_callsDone : Int32) (fl_sentInAll : Int32) (ru_from : (Nat → Int32)) (ru_voted : (Nat → Int32)) (ru_undone : (Nat → Int32)) (ru_says : (Nat → Int32)) (ru_texts : Int32) (ru_lines : Int32) (cr_book : (Nat → Int32)) (cr_signed : (Nat → Int32)) (cr_size : Int32) (cr_latestPaper : (Nat → Int32)) (cr_paperBefore : (Nat → Int32)) (cr_paperLast : (Nat → Int32)) (cr_paperTold : (Nat → Int32)) (cr_papers : Int32) (cr_minutesHere : (Nat → Int32)) (cr_heres : Int32) (ca_skill : (Nat → Int32)) (ca_days : (Nat → Int32)) (ca_wanted : (Nat → Int32)) (ca_named : (Nat → Int32)) (ca_minute : (Nat → Int32)) (ca_day : (Nat → Int32)) (ca_refusers : (Nat → Int32)) (ca_order : (Nat → Int32)) (ca_size : Int32) (x1 : Int32) (x2 : Int32) (K : (Int32 → Prop)) (h : wp_X2_freeOnList fl_lists fl_listSize fl_job x1 x2 K) : mk_Ci l D cI cZ E yX2_freeOnList wsX2_freeOnList rm_X2_freeOnList ([.ref fl_h, .int x1, .int x2] : List Value) ((wo_X2 cI cZ fl_h fl_ad ru_h cr_h ca_h fl_lists fl_listSize fl_job fl_jobLast fl_refusals fl_notes fl_laws fl_line fl_lineSize fl_clock fl_callsDone fl_sentInAll) ++ ((wo_X4 cI cZ ru_h ru_ad ru_from ru_voted ru_undone ru_says ru_texts ru_lines) ++ ((wo_X1 cI cZ cr_h cr_ad cr_book cr_signed cr_size cr_latestPaper cr_paperBefore cr_paperLast cr_paperTold cr_papers cr_minutesHere cr_heres) ++ (wo_X0 cI cZ ca_h ca_ad ca_skill ca_days ca_wanted ca_named ca_minute ca_day ca_refusers ca_order ca_size)))) (fun (u : Unit) => ((wo_X2 cI cZ fl_h fl_ad ru_h cr_h ca_h fl_lists fl_listSize fl_job fl_jobLast fl_refusals fl_notes fl_laws fl_line fl_lineSize fl_clock fl_callsDone fl_sentInAll) ++ ((wo_X4 cI cZ ru_h ru_ad ru_from ru_voted ru_undone ru_says ru_texts ru_lines) ++ ((wo_X1 cI cZ cr_h cr_ad cr_book cr_signed cr_size cr_latestPaper cr_paperBefore cr_paperLast cr_paperTold cr_papers cr_minutesHere cr_heres) ++ (wo_X0 cI cZ ca_h ca_ad ca_skill ca_days ca_wanted ca_named ca_minute ca_day ca_refusers ca_order ca_size))))) (fun (r : Int32) (u : Unit) => K r) := by
  intro sz
  refine Met.ofW (cc := cX2_freeOnList) (maxL := 6) (ret := (some .int)) (by decide) rfl ?_
  intro p e s m args below meth c s₁ B hml hv
  obtain ⟨rfl, hsz, hP, hK, hD0, hN, hE⟩ := hv
  have hx := B.exec
  have hb := B.bytes
  have hr := B.returns
  have hts := atoms_spec (ws := wsX2_freeOnList) B.pre
  have hown : s.vm.findClass RX2 = some m.cls := findClass_of_methodNamed B.named
  have hlocks := B.notSynchronized
  subst hsz
  have hD := hD0.self (sz := s.heap.size)
  generalize hAe : va_A ((wo_X2 cI cZ fl_h fl_ad ru_h cr_h ca_h fl_lists fl_listSize fl_job fl_jobLast fl_refusals fl_notes fl_laws fl_line fl_lineSize fl_clock fl_callsDone fl_sentInAll) ++ ((wo_X4 cI cZ ru_h ru_ad ru_from ru_voted ru_undone ru_says ru_texts ru_lines) ++ ((wo_X1 cI cZ cr_h cr_ad cr_book cr_signed cr_size cr_latestPaper cr_paperBefore cr_paperLast cr_paperTold cr_papers cr_minutesHere cr_heres) ++ (wo_X0 cI cZ ca_h ca_ad ca_skill ca_days ca_wanted ca_named ca_minute ca_day ca_refusers ca_order ca_size)))) s.heap.size = A at hD hE ⊢
  have hA : ∀ q : Nat, s.heap.size ≤ q → A q := fun q h => by rw [← hAe]; exact Or.inr h
  have hl := lv_entry ([.ref fl_h, .int x1, .int x2] : List Value) (n := 6) (Nat.le_of_ble_eq_true rfl)
  rw [lg_entry_eq]
  generalize (lg_sl ([.ref fl_h, .int x1, .int x2] : List Value) ++ List.replicate (6 - (lg_sl ([.ref fl_h, .int x1, .int x2] : List Value)).length) Slot.unset).toArray = ls at hl ⊢
  have hl : lv_has ls 6 [(0, .ref fl_h), (1, .int x1), (2, .int x2)] := hl
  refine mk_absQ (P := fun Q => W p l e _ s m _ below meth c s.heap [] 0 0 Q _) (fun Q hQ => ?_)
  refine mk_absH (P := fun H => W p l e _ s m _ below meth c H [] 0 0 Q _) (fun H hH => ?_)
  have hP : va_P D vwCl ((wo_X2 cI cZ fl_h fl_ad ru_h cr_h ca_h fl_lists fl_listSize fl_job fl_jobLast fl_refusals fl_notes fl_laws fl_line fl_lineSize fl_clock fl_callsDone fl_sentInAll) ++ ((wo_X4 cI cZ ru_h ru_ad ru_from ru_voted ru_undone ru_says ru_texts ru_lines) ++ ((wo_X1 cI cZ cr_h cr_ad cr_book cr_signed cr_size cr_latestPaper cr_paperBefore cr_paperLast cr_paperTold cr_papers cr_minutesHere cr_heres) ++ (wo_X0 cI cZ ca_h ca_ad ca_skill ca_days ca_wanted ca_named ca_minute ca_day ca_refusers ca_order ca_size)))) H := by rw [hH]; exact hP
  have hS : va_S A s.heap H [] := by rw [hH]; exact va_S.rf
  have b5 : ∀ (n : Nat), ∀ (x3 : Int32) (x4 : Int32), wp_X2_freeOnList_b5 K fl_lists fl_listSize fl_job x1 n x3 x4 → ∀ (H : Heap) (locs : List Loc) (ls : Array Slot), va_P D vwCl ((wo_X2 cI cZ fl_h fl_ad ru_h cr_h ca_h fl_lists fl_listSize fl_job fl_jobLast fl_refusals fl_notes fl_laws fl_line fl_lineSize fl_clock fl_callsDone fl_sentInAll) ++ ((wo_X4 cI cZ ru_h ru_ad ru_from ru_voted ru_undone ru_says ru_texts ru_lines) ++ ((wo_X1 cI cZ cr_h cr_ad cr_book cr_signed cr_size cr_latestPaper cr_paperBefore cr_paperLast cr_paperTold cr_papers cr_minutesHere cr_heres) ++ (wo_X0 cI cZ ca_h ca_ad ca_skill ca_days ca_wanted ca_named ca_minute ca_day ca_refusers ca_order ca_size)))) H → va_D A ((wo_X2 cI cZ fl_h fl_ad ru_h cr_h ca_h fl_lists fl_listSize fl_job fl_jobLast fl_refusals fl_notes fl_laws fl_line fl_lineSize fl_clock fl_callsDone fl_sentInAll) ++ ((wo_X4 cI cZ ru_h ru_ad ru_from ru_voted ru_undone ru_says ru_texts ru_lines) ++ ((wo_X1 cI cZ cr_h cr_ad cr_book cr_signed cr_size cr_latestPaper cr_paperBefore cr_paperLast cr_paperTold cr_papers cr_minutesHere cr_heres) ++ (wo_X0 cI cZ ca_h ca_ad ca_skill ca_days ca_wanted ca_named ca_minute ca_day ca_refusers ca_order ca_size)))) → va_S A s.heap H locs → lv_has ls 6 [(0, .ref fl_h), (1, .int x1), (3, .int x3), (4, .int x4)] → W p l e (headSpec wsX2_freeOnList rm_X2_freeOnList).room s m ([.ref fl_h, .int x1, .int x2] : List Value).toArray below meth c H locs 0 0 Q (F0 m 5 ls []) := by
    intro n
    induction n with
    | zero => intro x3 x4 h; exact False.elim h
    | succ n ih =>
      intro x3 x4 h H locs ls hP hD hS hl
      refine lv_iload hx hb dX2_freeOnList_5 (lv_at hl 3 rfl) ?_
      refine lv_aload_n hx hb dX2_freeOnList_7 rfl (lv_at hl 0 rfl) ?_
      refine va_get (D := D) (ci := 2) (v := .ref (fl_ad 4)) (C := RX2) (T := TX2) (N := 15) hx hb hts mi_X2_freeOnList_X2 hown hK hP 0 rfl rfl 4 (by decide) (hts (.fieldLink RX2 15 "HiringHall$Floor" "listSize" "[I") (List.mem_of_getElem? (i := 1) rfl)) (fun _ h9 => h9) rfl dX2_freeOnList_8 ?_
      refine lv_iload_n hx hb dX2_freeOnList_11 rfl (lv_at hl 1 rfl) ?_
      obtain ⟨hi_1, h⟩ := h
      refine va_iald hx hb hK hP 2 0 rfl rfl hi_1 dX2_freeOnList_12 ?_
      refine lv_icmp_ge (tgt := 57) hx hb dX2_freeOnList_13 (by decide) (fun c_2 => ?_) (fun c_2 => ?_)
      · have h := h.1 c_2
        refine lv_iconst (v := (-1)) hx hb dX2_freeOnList_57 (by decide) ?_
        rw [hQ]
        exact W.iret (v := (-1)) hx hb hr (fun t ht hW => ⟨⟨(-1), (), rfl, h, by rw [ht]; exact hP, va_K.moved hW.alike hK, hD⟩, hS.F ht⟩) hS.2.2 dX2_freeOnList_58
      · have h := h.2 c_2
        refine lv_aload_n hx hb dX2_freeOnList_16 rfl (lv_at hl 0 rfl) ?_
        refine va_get (D := D) (ci := 2) (v := .ref (fl_ad 3)) (C := RX2) (T := TX2) (N := 15) hx hb hts mi_X2_freeOnList_X2 hown hK hP 0 rfl rfl 3 (by decide) (hts (.fieldLink RX2 9 "HiringHall$Floor" "lists" "[I") (List.mem_of_getElem? (i := 2) rfl)) (fun _ h9 => h9) rfl dX2_freeOnList_17 ?_
        refine lv_iload_n hx hb dX2_freeOnList_20 rfl (lv_at hl 1 rfl) ?_
        refine lv_bipush (v := 16) hx hb dX2_freeOnList_21 (by decide) ?_
        refine lv_imul hx hb dX2_freeOnList_23 ?_
        refine lv_iload hx hb dX2_freeOnList_24 (lv_at hl 3 rfl) ?_
        refine lv_iadd hx hb dX2_freeOnList_26 ?_
        obtain ⟨hi_3, h⟩ := h
        refine va_iald hx hb hK hP 1 0 rfl rfl hi_3 dX2_freeOnList_27 ?_
        refine lv_topi (fun y4 e_y4 => ?_)
        have h := h y4 e_y4
        refine lv_istore (lv' := [(5, .int y4), (0, .ref fl_h), (1, .int x1), (3, .int x3), (4, .int x4)]) hx hb dX2_freeOnList_28 hl (by decide) rfl (fun ls hl => ?_)
        refine lv_aload_n hx hb dX2_freeOnList_30 rfl (lv_at hl 1 rfl) ?_
        refine va_get (D := D) (ci := 2) (v := .ref (fl_ad 5)) (C := RX2) (T := TX2) (N := 15) hx hb hts mi_X2_freeOnList_X2 hown hK hP 0 rfl rfl 5 (by decide) (hts (.fieldLink RX2 18 "HiringHall$Floor" "job" "[I") (List.mem_of_getElem? (i := 3) rfl)) (fun _ h9 => h9) rfl dX2_freeOnList_31 ?_
        refine lv_iload hx hb dX2_freeOnList_34 (lv_at hl 0 rfl) ?_
        obtain ⟨hi_5, h⟩ := h
        refine va_iald hx hb hK hP 3 0 rfl rfl hi_5 dX2_freeOnList_36 ?_
        refine lv_iconst (v := (-1)) hx hb dX2_freeOnList_37 (by decide) ?_
        refine lv_icmp_ne (tgt := 51) hx hb dX2_freeOnList_38 (by decide) (fun c_6 => ?_) (fun c_6 => ?_)
        · have h := h.1 c_6
          obtain ⟨y7, e_y7⟩ : ∃ y : Int32, y = x4 + 1 := ⟨_, rfl⟩
          have h := h y7 e_y7
          refine lv_iinc (v := y7) (lv' := [(4, .int y7), (5, .int y4), (0, .ref fl_h), (1, .int x1), (3, .int x3)]) hx hb dX2_freeOnList_51 hl (k := 4) rfl (by rw [e_y7]; rfl) (by decide) rfl (fun ls hl => ?_)
          refine lv_goto (tgt := 5) hx hb dX2_freeOnList_54 (by decide) ?_
          exact ih x3 y7 h _ _ _ hP hD hS (lv_sub hl [2, 3, 4, 0] rfl)
        · have h := h.2 c_6
          refine lv_iload_n hx hb dX2_freeOnList_41 rfl (lv_at hl 3 rfl) ?_
          refine lv_if_ne (tgt := 48) hx hb dX2_freeOnList_42 (by decide) (fun c_8 => ?_) (fun c_8 => ?_)
          · have h := h.1 c_8
            obtain ⟨y9, e_y9⟩ : ∃ y : Int32, y = x3 + (-1) := ⟨_, rfl⟩
            have h := h y9 e_y9
            refine lv_iinc (v := y9) (lv' := [(3, .int y9), (5, .int y4), (0, .ref fl_h), (1, .int x1), (4, .int x4)]) hx hb dX2_freeOnList_48 hl (k := 3) rfl (by rw [e_y9]; rfl) (by decide) rfl (fun ls hl => ?_)
            obtain ⟨y10, e_y10⟩ : ∃ y : Int32, y = x4 + 1 := ⟨_, rfl⟩
            have h := h y10 e_y10
            refine lv_iinc (v := y10) (lv' := [(4, .int y10), (3, .int y9), (5, .int y4), (0, .ref fl_h), (1, .int x1)]) hx hb dX2_freeOnList_51 hl (k := 4) rfl (by rw [e_y10]; rfl) (by decide) rfl (fun ls hl => ?_)
            refine lv_goto (tgt := 5) hx hb dX2_freeOnList_54 (by decide) ?_
            exact ih y9 y10 h _ _ _ hP hD hS (lv_sub hl [3, 4, 1, 0] rfl)
          · have h := h.2 c_8
            refine lv_iload hx hb dX2_freeOnList_45 (lv_at hl 0 rfl) ?_
            rw [hQ]
            exact W.iret (v := y4) hx hb hr (fun t ht hW => ⟨⟨y4, (), rfl, h, by rw [ht]; exact hP, va_K.moved hW.alike hK, hD⟩, hS.F ht⟩) hS.2.2 dX2_freeOnList_47
  refine lv_iload_n hx hb dX2_freeOnList_0 rfl (lv_at hl 2 rfl) ?_
  refine lv_istore_n (lv' := [(3, .int x2), (0, .ref fl_h), (1, .int x1), (2, .int x2)]) hx hb dX2_freeOnList_1 rfl hl (by decide) rfl (fun ls hl => ?_)
  refine lv_iconst (v := 0) hx hb dX2_freeOnList_2 (by decide) ?_
  refine lv_istore (lv' := [(4, .int 0), (3, .int x2), (0, .ref fl_h), (1, .int x1), (2, .int x2)]) hx hb dX2_freeOnList_3 hl (by decide) rfl (fun ls hl => ?_)
  obtain ⟨n, h⟩ := h
  exact b5  n x2 0 h _ _ _ hP hD hS (lv_sub hl [2, 3, 1, 0] rfl)
