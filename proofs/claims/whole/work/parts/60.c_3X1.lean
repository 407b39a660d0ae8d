def rm_X1_add : Room := { frames := 0, cells := 0, slots := 0, locals := 0 }
theorem mi_X1_add_X1 : ∀ w ∈ wsX10, w ∈ wsX1_add := fun _ h => List.mem_cons_of_mem _ (List.mem_append_right _ h)
set_option maxHeartbeats 4000000 in
set_option maxRecDepth 100000 in
theorem c_X1_add (l : Launch) (D : va_G) (cI cZ : ClassId) (E : (Nat → Nat) × (Nat → Nat)) (cr_h : Nat) (cr_ad : Nat → Nat) (cr_book : (Nat → Int32)) (cr_signed : (Nat → Int32)) (cr_size : Int32) (cr_latestPaper : (Nat → Int32)) (cr_paperBefore : (Nat → Int32)) (cr_paperLast : (Nat → Int32)) (cr_paperTold : (Nat → Int32)) (cr_papers : Int32) (cr_minutesHere : (Nat → Int32)) (cr_heres : Int32) (x1 : Int32) (x2 : Int32) (K : (Int32 → (Nat → Int32) → (Nat → Int32) → Int32 → Prop)) (h : wp_X1_add cr_book cr_signed cr_size x1 x2 K) : mk_Ci l D cI cZ E yX1_add wsX1_add rm_X1_add ([.ref cr_h, .int x1, .int x2] : List Value) (wo_X1 cI cZ cr_h cr_ad cr_book cr_signed cr_size cr_latestPaper cr_paperBefore cr_paperLast cr_paperTold cr_papers cr_minutesHere cr_heres) (fun (u : (Nat → Int32) × (Nat → Int32) × Int32) => (wo_X1 cI cZ cr_h cr_ad u.1 u.2.1 u.2.2 cr_latestPaper cr_paperBefore cr_paperLast cr_paperTold cr_papers cr_minutesHere cr_heres)) (fun (r : Int32) (u : (Nat → Int32) × (Nat → Int32) × Int32) => K r u.1 u.2.1 u.2.2) := by
  intro sz
  refine Met.ofW (cc := cX1_add) (maxL := 4) (ret := (some .int)) (by decide) rfl ?_
  intro p e s m args below meth c s₁ B hml hv
  obtain ⟨rfl, hsz, hP, hK, hD0, hN, hE⟩ := hv
  have hx := B.exec
  have hb := B.bytes
  have hr := B.returns
  have hts := atoms_spec (ws := wsX1_add) B.pre
  have hown : s.vm.findClass RX1 = some m.cls := findClass_of_methodNamed B.named
  have hlocks := B.notSynchronized
  subst hsz
  have hD := hD0.self (sz := s.heap.size)
  generalize hAe : va_A (wo_X1 cI cZ cr_h cr_ad cr_book cr_signed cr_size cr_latestPaper cr_paperBefore cr_paperLast cr_paperTold cr_papers cr_minutesHere cr_heres) s.heap.size = A at hD hE ⊢
  have hA : ∀ q : Nat, s.heap.size ≤ q → A q := fun q h => by rw [← hAe]; exact Or.inr h
  have hl := lv_entry ([.ref cr_h, .int x1, .int x2] : List Value) (n := 4) (Nat.le_of_ble_eq_true rfl)
  rw [lg_entry_eq]
  generalize (lg_sl ([.ref cr_h, .int x1, .int x2] : List Value) ++ List.replicate (4 - (lg_sl ([.ref cr_h, .int x1, .int x2] : List Value)).length) Slot.unset).toArray = ls at hl ⊢
  have hl : lv_has ls 4 [(0, .ref cr_h), (1, .int x1), (2, .int x2)] := hl
  refine mk_absQ (P := fun Q => W p l e _ s m _ below meth c s.heap [] 0 0 Q _) (fun Q hQ => ?_)
  refine mk_absH (P := fun H => W p l e _ s m _ below meth c H [] 0 0 Q _) (fun H hH => ?_)
  have hP : va_P D vwCl (wo_X1 cI cZ cr_h cr_ad cr_book cr_signed cr_size cr_latestPaper cr_paperBefore cr_paperLast cr_paperTold cr_papers cr_minutesHere cr_heres) H := by rw [hH]; exact hP
  have hS : va_S A s.heap H [] := by rw [hH]; exact va_S.rf
  refine lv_aload_n hx hb dX1_add_0 rfl (lv_at hl 0 rfl) ?_
  refine va_get (D := D) (ci := 1) (v := .int cr_size) (C := RX1) (T := TX1) (N := 10) hx hb hts mi_X1_add_X1 hown hK hP 0 rfl rfl 2 (by decide) (hts (.fieldLink RX1 39 "HiringHall$Crew" "size" "I") (List.mem_of_getElem? (i := 1) rfl)) (fun _ h9 => h9) rfl dX1_add_1 ?_
  refine lv_istore_n (lv' := [(3, .int cr_size), (0, .ref cr_h), (1, .int x1), (2, .int x2)]) hx hb dX1_add_4 rfl hl (by decide) rfl (fun ls hl => ?_)
  refine lv_aload_n hx hb dX1_add_5 rfl (lv_at hl 1 rfl) ?_
  refine va_get (D := D) (ci := 1) (v := .ref (cr_ad 0)) (C := RX1) (T := TX1) (N := 10) hx hb hts mi_X1_add_X1 hown hK hP 0 rfl rfl 0 (by decide) (hts (.fieldLink RX1 9 "HiringHall$Crew" "book" "[I") (List.mem_of_getElem? (i := 2) rfl)) (fun _ h9 => h9) rfl dX1_add_6 ?_
  refine lv_iload_n hx hb dX1_add_9 rfl (lv_at hl 0 rfl) ?_
  refine lv_iload_n hx hb dX1_add_10 rfl (lv_at hl 2 rfl) ?_
  obtain ⟨hi_1, h⟩ := h
  refine va_iast hx hb hK hP hD hS 1 0 rfl rfl hi_1 dX1_add_11 (fun H locs hP hD hS => ?_)
  have hP : va_P D vwCl (wo_X1 cI cZ cr_h cr_ad (upd cr_book (cr_size.toNatClampNeg) x1) cr_signed cr_size cr_latestPaper cr_paperBefore cr_paperLast cr_paperTold cr_papers cr_minutesHere cr_heres) H := hP
  have hD : va_D A (wo_X1 cI cZ cr_h cr_ad (upd cr_book (cr_size.toNatClampNeg) x1) cr_signed cr_size cr_latestPaper cr_paperBefore cr_paperLast cr_paperTold cr_papers cr_minutesHere cr_heres) := hD
  refine lv_aload_n hx hb dX1_add_12 rfl (lv_at hl 1 rfl) ?_
  refine va_get (D := D) (ci := 1) (v := .ref (cr_ad 1)) (C := RX1) (T := TX1) (N := 10) hx hb hts mi_X1_add_X1 hown hK hP 0 rfl rfl 1 (by decide) (hts (.fieldLink RX1 15 "HiringHall$Crew" "signed" "[I") (List.mem_of_getElem? (i := 3) rfl)) (fun _ h9 => h9) rfl dX1_add_13 ?_
  refine lv_iload_n hx hb dX1_add_16 rfl (lv_at hl 0 rfl) ?_
  refine lv_iload_n hx hb dX1_add_17 rfl (lv_at hl 3 rfl) ?_
  obtain ⟨hi_2, h⟩ := h
  refine va_iast hx hb hK hP hD hS 2 0 rfl rfl hi_2 dX1_add_18 (fun H locs hP hD hS => ?_)
  have hP : va_P D vwCl (wo_X1 cI cZ cr_h cr_ad (upd cr_book (cr_size.toNatClampNeg) x1) (upd cr_signed (cr_size.toNatClampNeg) x2) cr_size cr_latestPaper cr_paperBefore cr_paperLast cr_paperTold cr_papers cr_minutesHere cr_heres) H := hP
  have hD : va_D A (wo_X1 cI cZ cr_h cr_ad (upd cr_book (cr_size.toNatClampNeg) x1) (upd cr_signed (cr_size.toNatClampNeg) x2) cr_size cr_latestPaper cr_paperBefore cr_paperLast cr_paperTold cr_papers cr_minutesHere cr_heres) := hD
  refine lv_aload_n hx hb dX1_add_19 rfl (lv_at hl 1 rfl) ?_
  refine lv_dup hx hb dX1_add_20 rfl ?_
  refine va_get (D := D) (ci := 1) (v := .int cr_size) (C := RX1) (T := TX1) (N := 10) hx hb hts mi_X1_add_X1 hown hK hP 0 rfl rfl 2 (by decide) (hts (.fieldLink RX1 39 "HiringHall$Crew" "size" "I") (List.mem_of_getElem? (i := 1) rfl)) (fun _ h9 => h9) rfl dX1_add_21 ?_
  refine lv_iconst (v := 1) hx hb dX1_add_24 (by decide) ?_
  refine lv_iadd hx hb dX1_add_25 ?_
  refine lv_topi (fun y3 e_y3 => ?_)
  have h := h y3 e_y3
  refine va_put (D := D) (ci := 1) (v := .int y3) (ty := .int) (C := RX1) (T := TX1) (N := 10) hx hb hts mi_X1_add_X1 tyX1 tyX1_ok nmX1 hown hK hP hD hS 0 rfl rfl 2 (by decide) (hts (.fieldLink RX1 39 "HiringHall$Crew" "size" "I") (List.mem_of_getElem? (i := 1) rfl)) (fun _ h9 => h9) rfl (by decide +kernel) rfl rfl (Nat.le_of_ble_eq_true rfl) dX1_add_26 (fun H locs hP hD hS => ?_)
  have hP : va_P D vwCl (wo_X1 cI cZ cr_h cr_ad (upd cr_book (cr_size.toNatClampNeg) x1) (upd cr_signed (cr_size.toNatClampNeg) x2) y3 cr_latestPaper cr_paperBefore cr_paperLast cr_paperTold cr_papers cr_minutesHere cr_heres) H := hP
  have hD : va_D A (wo_X1 cI cZ cr_h cr_ad (upd cr_book (cr_size.toNatClampNeg) x1) (upd cr_signed (cr_size.toNatClampNeg) x2) y3 cr_latestPaper cr_paperBefore cr_paperLast cr_paperTold cr_papers cr_minutesHere cr_heres) := hD
  refine lv_iload_n hx hb dX1_add_29 rfl (lv_at hl 0 rfl) ?_
  rw [hQ]
  exact W.iret (v := cr_size) hx hb hr (fun t ht hW => ⟨⟨cr_size, ((upd cr_book (cr_size.toNatClampNeg) x1), (upd cr_signed (cr_size.toNatClampNeg) x2), y3), rfl, h, by rw [ht]; exact hP, va_K.moved hW.alike hK, hD⟩, hS.F ht⟩) hS.2.2 dX1_add_30
def rm_X1_addPaper : Room := { frames := 0, cells := 0, slots := 0, locals := 0 }
theorem mi_X1_addPaper_X1 : ∀ w ∈ wsX10, w ∈ wsX1_addPaper := fun _ h => List.mem_cons_of_mem _ (List.mem_append_right _ h)
set_option maxHeartbeats 4000000 in
set_option maxRecDepth 100000 in
theorem c_X1_addPaper (l : Launch) (D : va_G) (cI cZ : ClassId) (E : (Nat → Nat) × (Nat → Nat)) (cr_h : Nat) (cr_ad : Nat → Nat) (cr_book : (Nat → Int32)) (cr_signed : (Nat → Int32)) (cr_size : Int32) (cr_latestPaper : (Nat → Int32)) (cr_paperBefore : (Nat → Int32)) (cr_paperLast : (Nat → Int32)) (cr_paperTold : (Nat → Int32)) (cr_papers : Int32) (cr_minutesHere : (Nat → Int32)) (cr_heres : Int32) (x1 : Int32) (x2 : Int32) (x3 : Int32) (x4 : Int32) (K : ((Nat → Int32) → (Nat → Int32) → (Nat → Int32) → (Nat → Int32) → Int32 → Prop)) (h : wp_X1_addPaper cr_latestPaper cr_paperBefore cr_paperLast cr_paperTold cr_papers x1 x2 x3 x4 K) : mk_Cv l D cI cZ E yX1_addPaper wsX1_addPaper rm_X1_addPaper ([.ref cr_h, .int x1, .int x2, .int x3, .int x4] : List Value) (wo_X1 cI cZ cr_h cr_ad cr_book cr_signed cr_size cr_latestPaper cr_paperBefore cr_paperLast cr_paperTold cr_papers cr_minutesHere cr_heres) (fun (u : (Nat → Int32) × (Nat → Int32) × (Nat → Int32) × (Nat → Int32) × Int32) => (wo_X1 cI cZ cr_h cr_ad cr_book cr_signed cr_size u.1 u.2.1 u.2.2.1 u.2.2.2.1 u.2.2.2.2 cr_minutesHere cr_heres)) (fun (u : (Nat → Int32) × (Nat → Int32) × (Nat → Int32) × (Nat → Int32) × Int32) => K u.1 u.2.1 u.2.2.1 u.2.2.2.1 u.2.2.2.2) := by
  intro sz
  refine Met.ofW (cc := cX1_addPaper) (maxL := 6) (ret := none) (by decide) rfl ?_
  intro p e s m args below meth c s₁ B hml hv
  obtain ⟨rfl, hsz, hP, hK, hD0, hN, hE⟩ := hv
  have hx := B.exec
  have hb := B.bytes
  have hr := B.returns
  have hts := atoms_spec (ws := wsX1_addPaper) B.pre
  have hown : s.vm.findClass RX1 = some m.cls := findClass_of_methodNamed B.named
  have hlocks := B.notSynchronized
  subst hsz
  have hD := hD0.self (sz := s.heap.size)
  generalize hAe : va_A (wo_X1 cI cZ cr_h cr_ad cr_book cr_signed cr_size cr_latestPaper cr_paperBefore cr_paperLast cr_paperTold cr_papers cr_minutesHere cr_heres) s.heap.size = A at hD hE ⊢
  have hA : ∀ q : Nat, s.heap.size ≤ q → A q := fun q h => by rw [← hAe]; exact Or.inr h
  have hl := lv_entry ([.ref cr_h, .int x1, .int x2, .int x3, .int x4] : List Value) (n := 6) (Nat.le_of_ble_eq_true rfl)
  rw [lg_entry_eq]
  generalize (lg_sl ([.ref cr_h, .int x1, .int x2, .int x3, .int x4] : List Value) ++ List.replicate (6 - (lg_sl ([.ref cr_h, .int x1, .int x2, .int x3, .int x4] : List Value)).length) Slot.unset).toArray = ls at hl ⊢
  have hl : lv_has ls 6 [(0, .ref cr_h), (1, .int x1), (2, .int x2), (3, .int x3), (4, .int x4)] := hl
  refine mk_absQ (P := fun Q => W p l e _ s m _ below meth c s.heap [] 0 0 Q _) (fun Q hQ => ?_)
  refine mk_absH (P := fun H => W p l e _ s m _ below meth c H [] 0 0 Q _) (fun H hH => ?_)
  have hP : va_P D vwCl (wo_X1 cI cZ cr_h cr_ad cr_book cr_signed cr_size cr_latestPaper cr_paperBefore cr_paperLast cr_paperTold cr_papers cr_minutesHere cr_heres) H := by rw [hH]; exact hP
  have hS : va_S A s.heap H [] := by rw [hH]; exact va_S.rf
  refine lv_iload_n hx hb dX1_addPaper_0 rfl (lv_at hl 1 rfl) ?_
  refine lv_bipush (v := 8) hx hb dX1_addPaper_1 (by decide) ?_
  refine lv_imul hx hb dX1_addPaper_3 ?_
  refine lv_iload_n hx hb dX1_addPaper_4 rfl (lv_at hl 2 rfl) ?_
  refine lv_iadd hx hb dX1_addPaper_5 ?_
  refine lv_topi (fun y1 e_y1 => ?_)
  have h := h y1 e_y1
  refine lv_istore (lv' := [(5, .int y1), (0, .ref cr_h), (1, .int x1), (2, .int x2), (3, .int x3), (4, .int x4)]) hx hb dX1_addPaper_6 hl (by decide) rfl (fun ls hl => ?_)
  refine lv_aload_n hx hb dX1_addPaper_8 rfl (lv_at hl 1 rfl) ?_
  refine va_get (D := D) (ci := 1) (v := .ref (cr_ad 4)) (C := RX1) (T := TX1) (N := 10) hx hb hts mi_X1_addPaper_X1 hown hK hP 0 rfl rfl 4 (by decide) (hts (.fieldLink RX1 21 "HiringHall$Crew" "paperBefore" "[I") (List.mem_of_getElem? (i := 1) rfl)) (fun _ h9 => h9) rfl dX1_addPaper_9 ?_
  refine lv_aload_n hx hb dX1_addPaper_12 rfl (lv_at hl 1 rfl) ?_
  refine va_get (D := D) (ci := 1) (v := .int cr_papers) (C := RX1) (T := TX1) (N := 10) hx hb hts mi_X1_addPaper_X1 hown hK hP 0 rfl rfl 7 (by decide) (hts (.fieldLink RX1 43 "HiringHall$Crew" "papers" "I") (List.mem_of_getElem? (i := 2) rfl)) (fun _ h9 => h9) rfl dX1_addPaper_13 ?_
  refine lv_aload_n hx hb dX1_addPaper_16 rfl (lv_at hl 1 rfl) ?_
  refine va_get (D := D) (ci := 1) (v := .ref (cr_ad 3)) (C := RX1) (T := TX1) (N := 10) hx hb hts mi_X1_addPaper_X1 hown hK hP 0 rfl rfl 3 (by decide) (hts (.fieldLink RX1 18 "HiringHall$Crew" "latestPaper" "[I") (List.mem_of_getElem? (i := 3) rfl)) (fun _ h9 => h9) rfl dX1_addPaper_17 ?_
  refine lv_iload hx hb dX1_addPaper_20 (lv_at hl 0 rfl) ?_
  obtain ⟨hi_2, h⟩ := h
  refine va_iald hx hb hK hP 3 0 rfl rfl hi_2 dX1_addPaper_22 ?_
  refine lv_topi (fun y3 e_y3 => ?_)
  have h := h y3 e_y3
  obtain ⟨hi_4, h⟩ := h
  refine va_iast hx hb hK hP hD hS 4 0 rfl rfl hi_4 dX1_addPaper_23 (fun H locs hP hD hS => ?_)
  have hP : va_P D vwCl (wo_X1 cI cZ cr_h cr_ad cr_book cr_signed cr_size cr_latestPaper (upd cr_paperBefore (cr_papers.toNatClampNeg) y3) cr_paperLast cr_paperTold cr_papers cr_minutesHere cr_heres) H := hP
  have hD : va_D A (wo_X1 cI cZ cr_h cr_ad cr_book cr_signed cr_size cr_latestPaper (upd cr_paperBefore (cr_papers.toNatClampNeg) y3) cr_paperLast cr_paperTold cr_papers cr_minutesHere cr_heres) := hD
  refine lv_aload_n hx hb dX1_addPaper_24 rfl (lv_at hl 1 rfl) ?_
  refine va_get (D := D) (ci := 1) (v := .ref (cr_ad 5)) (C := RX1) (T := TX1) (N := 10) hx hb hts mi_X1_addPaper_X1 hown hK hP 0 rfl rfl 5 (by decide) (hts (.fieldLink RX1 24 "HiringHall$Crew" "paperLast" "[I") (List.mem_of_getElem? (i := 4) rfl)) (fun _ h9 => h9) rfl dX1_addPaper_25 ?_
  refine lv_aload_n hx hb dX1_addPaper_28 rfl (lv_at hl 1 rfl) ?_
  refine va_get (D := D) (ci := 1) (v := .int cr_papers) (C := RX1) (T := TX1) (N := 10) hx hb hts mi_X1_addPaper_X1 hown hK hP 0 rfl rfl 7 (by decide) (hts (.fieldLink RX1 43 "HiringHall$Crew" "papers" "I") (List.mem_of_getElem? (i := 2) rfl)) (fun _ h9 => h9) rfl dX1_addPaper_29 ?_
  refine lv_iload_n hx hb dX1_addPaper_32 rfl (lv_at hl 4 rfl) ?_
  obtain ⟨hi_5, h⟩ := h
  refine va_iast hx hb hK hP hD hS 5 0 rfl rfl hi_5 dX1_addPaper_33 (fun H locs hP hD hS => ?_)
  have hP : va_P D vwCl (wo_X1 cI cZ cr_h cr_ad cr_book cr_signed cr_size cr_latestPaper (upd cr_paperBefore (cr_papers.toNatClampNeg) y3) (upd cr_paperLast (cr_papers.toNatClampNeg) x3) cr_paperTold cr_papers cr_minutesHere cr_heres) H := hP
  have hD : va_D A (wo_X1 cI cZ cr_h cr_ad cr_book cr_signed cr_size cr_latestPaper (upd cr_paperBefore (cr_papers.toNatClampNeg) y3) (upd cr_paperLast (cr_papers.toNatClampNeg) x3) cr_paperTold cr_papers cr_minutesHere cr_heres) := hD
  refine lv_aload_n hx hb dX1_addPaper_34 rfl (lv_at hl 1 rfl) ?_
  refine va_get (D := D) (ci := 1) (v := .ref (cr_ad 6)) (C := RX1) (T := TX1) (N := 10) hx hb hts mi_X1_addPaper_X1 hown hK hP 0 rfl rfl 6 (by decide) (hts (.fieldLink RX1 27 "HiringHall$Crew" "paperTold" "[I") (List.mem_of_getElem? (i := 5) rfl)) (fun _ h9 => h9) rfl dX1_addPaper_35 ?_
  refine lv_aload_n hx hb dX1_addPaper_38 rfl (lv_at hl 1 rfl) ?_
  refine va_get (D := D) (ci := 1) (v := .int cr_papers) (C := RX1) (T := TX1) (N := 10) hx hb hts mi_X1_addPaper_X1 hown hK hP 0 rfl rfl 7 (by decide) (hts (.fieldLink RX1 43 "HiringHall$Crew" "papers" "I") (List.mem_of_getElem? (i := 2) rfl)) (fun _ h9 => h9) rfl dX1_addPaper_39 ?_
  refine lv_iload hx hb dX1_addPaper_42 (lv_at hl 5 rfl) ?_
  obtain ⟨hi_6, h⟩ := h
  refine va_iast hx hb hK hP hD hS 6 0 rfl rfl hi_6 dX1_addPaper_44 (fun H locs hP hD hS => ?_)
  have hP : va_P D vwCl (wo_X1 cI cZ cr_h cr_ad cr_book cr_signed cr_size cr_latestPaper (upd cr_paperBefore (cr_papers.toNatClampNeg) y3) (upd cr_paperLast (cr_papers.toNatClampNeg) x3) (upd cr_paperTold (cr_papers.toNatClampNeg) x4) cr_papers cr_minutesHere cr_heres) H := hP
  have hD : va_D A (wo_X1 cI cZ cr_h cr_ad cr_book cr_signed cr_size cr_latestPaper (upd cr_paperBefore (cr_papers.toNatClampNeg) y3) (upd cr_paperLast (cr_papers.toNatClampNeg) x3) (upd cr_paperTold (cr_papers.toNatClampNeg) x4) cr_papers cr_minutesHere cr_heres) := hD
  refine lv_aload_n hx hb dX1_addPaper_45 rfl (lv_at hl 1 rfl) ?_
  refine va_get (D := D) (ci := 1) (v := .ref (cr_ad 3)) (C := RX1) (T := TX1) (N := 10) hx hb hts mi_X1_addPaper_X1 hown hK hP 0 rfl rfl 3 (by decide) (hts (.fieldLink RX1 18 "HiringHall$Crew" "latestPaper" "[I") (List.mem_of_getElem? (i := 3) rfl)) (fun _ h9 => h9) rfl dX1_addPaper_46 ?_
  refine lv_iload hx hb dX1_addPaper_49 (lv_at hl 0 rfl) ?_
  refine lv_aload_n hx hb dX1_addPaper_51 rfl (lv_at hl 1 rfl) ?_
  refine va_get (D := D) (ci := 1) (v := .int cr_papers) (C := RX1) (T := TX1) (N := 10) hx hb hts mi_X1_addPaper_X1 hown hK hP 0 rfl rfl 7 (by decide) (hts (.fieldLink RX1 43 "HiringHall$Crew" "papers" "I") (List.mem_of_getElem? (i := 2) rfl)) (fun _ h9 => h9) rfl dX1_addPaper_52 ?_
  obtain ⟨hi_7, h⟩ := h
  refine va_iast hx hb hK hP hD hS 3 0 rfl rfl hi_7 dX1_addPaper_55 (fun H locs hP hD hS => ?_)
  have hP : va_P D vwCl (wo_X1 cI cZ cr_h cr_ad cr_book cr_signed cr_size (upd cr_latestPaper (y1.toNatClampNeg) cr_papers) (upd cr_paperBefore (cr_papers.toNatClampNeg) y3) (upd cr_paperLast (cr_papers.toNatClampNeg) x3) (upd cr_paperTold (cr_papers.toNatClampNeg) x4) cr_papers cr_minutesHere cr_heres) H := hP
  have hD : va_D A (wo_X1 cI cZ cr_h cr_ad cr_book cr_signed cr_size (upd cr_latestPaper (y1.toNatClampNeg) cr_papers) (upd cr_paperBefore (cr_papers.toNatClampNeg) y3) (upd cr_paperLast (cr_papers.toNatClampNeg) x3) (upd cr_paperTold (cr_papers.toNatClampNeg) x4) cr_papers cr_minutesHere cr_heres) := hD
  refine lv_aload_n hx hb dX1_addPaper_56 rfl (lv_at hl 1 rfl) ?_
  refine lv_dup hx hb dX1_addPaper_57 rfl ?_
  refine va_get (D := D) (ci := 1) (v := .int cr_papers) (C := RX1) (T := TX1) (N := 10) hx hb hts mi_X1_addPaper_X1 hown hK hP 0 rfl rfl 7 (by decide) (hts (.fieldLink RX1 43 "HiringHall$Crew" "papers" "I") (List.mem_of_getElem? (i := 2) rfl)) (fun _ h9 => h9) rfl dX1_addPaper_58 ?_
  refine lv_iconst (v := 1) hx hb dX1_addPaper_61 (by decide) ?_
  refine lv_iadd hx hb dX1_addPaper_62 ?_
  refine lv_topi (fun y8 e_y8 => ?_)
  have h := h y8 e_y8
  refine va_put (D := D) (ci := 1) (v := .int y8) (ty := .int) (C := RX1) (T := TX1) (N := 10) hx hb hts mi_X1_addPaper_X1 tyX1 tyX1_ok nmX1 hown hK hP hD hS 0 rfl rfl 7 (by decide) (hts (.fieldLink RX1 43 "HiringHall$Crew" "papers" "I") (List.mem_of_getElem? (i := 2) rfl)) (fun _ h9 => h9) rfl (by decide +kernel) rfl rfl (Nat.le_of_ble_eq_true rfl) dX1_addPaper_63 (fun H locs hP hD hS => ?_)
  have hP : va_P D vwCl (wo_X1 cI cZ cr_h cr_ad cr_book cr_signed cr_size (upd cr_latestPaper (y1.toNatClampNeg) cr_papers) (upd cr_paperBefore (cr_papers.toNatClampNeg) y3) (upd cr_paperLast (cr_papers.toNatClampNeg) x3) (upd cr_paperTold (cr_papers.toNatClampNeg) x4) y8 cr_minutesHere cr_heres) H := hP
  have hD : va_D A (wo_X1 cI cZ cr_h cr_ad cr_book cr_signed cr_size (upd cr_latestPaper (y1.toNatClampNeg) cr_papers) (upd cr_paperBefore (cr_papers.toNatClampNeg) y3) (upd cr_paperLast (cr_papers.toNatClampNeg) x3) (upd cr_paperTold (cr_papers.toNatClampNeg) x4) y8 cr_minutesHere cr_heres) := hD
  rw [hQ]
  exact W.vret hx hb hr (fun t ht hW => ⟨⟨((upd cr_latestPaper (y1.toNatClampNeg) cr_papers), (upd cr_paperBefore (cr_papers.toNatClampNeg) y3), (upd cr_paperLast (cr_papers.toNatClampNeg) x3), (upd cr_paperTold (cr_papers.toNatClampNeg) x4), y8), rfl, h, by rw [ht]; exact hP, va_K.moved hW.alike hK, hD⟩, hS.F ht⟩) hS.2.2 dX1_addPaper_66
def rm_X1_hasPaper : Room := { frames := 0, cells := 0, slots := 0, locals := 0 }
theorem mi_X1_hasPaper_X1 : ∀ w ∈ wsX10, w ∈ wsX1_hasPaper := fun _ h => List.mem_cons_of_mem _ (List.mem_append_right _ h)
set_option maxHeartbeats 4000000 in
set_option maxRecDepth 100000 in
theorem c_X1_hasPaper (l : Launch) (D : va_G) (cI cZ : ClassId) (E : (Nat → Nat) × (Nat → Nat)) (cr_h : Nat) (cr_ad : Nat → Nat) (cr_book : (Nat → Int32)) (cr_signed : (Nat → Int32)) (cr_size : Int32) (cr_latestPaper : (Nat → Int32)) (cr_paperBefore : (Nat → Int32)) (cr_paperLast : (Nat → Int32)) (cr_paperTold : (Nat → Int32)) (cr_papers : Int32) (cr_minutesHere : (Nat → Int32)) (cr_heres : Int32) (x1 : Int32) (x2 : Int32) (x3 : Int32) (K : (Int32 → Prop)) (h : wp_X1_hasPaper cr_latestPaper cr_paperBefore cr_paperLast cr_paperTold cr_papers x1 x2 x3 K) : mk_Ci l D cI cZ E yX1_hasPaper wsX1_hasPaper rm_X1_hasPaper ([.ref cr_h, .int x1, .int x2, .int x3] : List Value) (wo_X1 cI cZ cr_h cr_ad cr_book cr_signed cr_size cr_latestPaper cr_paperBefore cr_paperLast cr_paperTold cr_papers cr_minutesHere cr_heres) (fun (u : Unit) => (wo_X1 cI cZ cr_h cr_ad cr_book cr_signed cr_size cr_latestPaper cr_paperBefore cr_paperLast cr_paperTold cr_papers cr_minutesHere cr_heres)) (fun (r : Int32) (u : Unit) => K r) := by
  intro sz
  refine Met.ofW (cc := cX1_hasPaper) (maxL := 6) (ret := (some .boolean)) (by decide) rfl ?_
  intro p e s m args below meth c s₁ B hml hv
  obtain ⟨rfl, hsz, hP, hK, hD0, hN, hE⟩ := hv
  have hx := B.exec
  have hb := B.bytes
  have hr := B.returns
  have hts := atoms_spec (ws := wsX1_hasPaper) B.pre
  have hown : s.vm.findClass RX1 = some m.cls := findClass_of_methodNamed B.named
  have hlocks := B.notSynchronized
  subst hsz
  have hD := hD0.self (sz := s.heap.size)
  generalize hAe : va_A (wo_X1 cI cZ cr_h cr_ad cr_book cr_signed cr_size cr_latestPaper cr_paperBefore cr_paperLast cr_paperTold cr_papers cr_minutesHere cr_heres) s.heap.size = A at hD hE ⊢
  have hA : ∀ q : Nat, s.heap.size ≤ q → A q := fun q h => by rw [← hAe]; exact Or.inr h
  have hl := lv_entry ([.ref cr_h, .int x1, .int x2, .int x3] : List Value) (n := 6) (Nat.le_of_ble_eq_true rfl)
  rw [lg_entry_eq]
  generalize (lg_sl ([.ref cr_h, .int x1, .int x2, .int x3] : List Value) ++ List.replicate (6 - (lg_sl ([.ref cr_h, .int x1, .int x2, .int x3] : List Value)).length) Slot.unset).toArray = ls at hl ⊢
  have hl : lv_has ls 6 [(0, .ref cr_h), (1, .int x1), (2, .int x2), (3, .int x3)] := hl
  refine mk_absQ (P := fun Q => W p l e _ s m _ below meth c s.heap [] 0 0 Q _) (fun Q hQ => ?_)
  refine mk_absH (P := fun H => W p l e _ s m _ below meth c H [] 0 0 Q _) (fun H hH => ?_)
  have hP : va_P D vwCl (wo_X1 cI cZ cr_h cr_ad cr_book cr_signed cr_size cr_latestPaper cr_paperBefore cr_paperLast cr_paperTold cr_papers cr_minutesHere cr_heres) H := by rw [hH]; exact hP
  have hS : va_S A s.heap H [] := by rw [hH]; exact va_S.rf
  have b16 : ∀ (n : Nat), ∀ (x4 : Int32) (x5 : Int32), wp_X1_hasPaper_b16 K cr_paperBefore cr_paperLast cr_paperTold cr_papers x3 n x4 x5 → ∀ (H : Heap) (locs : List Loc) (ls : Array Slot), va_P D vwCl (wo_X1 cI cZ cr_h cr_ad cr_book cr_signed cr_size cr_latestPaper cr_paperBefore cr_paperLast cr_paperTold cr_papers cr_minutesHere cr_heres) H → va_D A (wo_X1 cI cZ cr_h cr_ad cr_book cr_signed cr_size cr_latestPaper cr_paperBefore cr_paperLast cr_paperTold cr_papers cr_minutesHere cr_heres) → va_S A s.heap H locs → lv_has ls 6 [(0, .ref cr_h), (3, .int x3), (4, .int x4), (5, .int x5)] → W p l e (headSpec wsX1_hasPaper rm_X1_hasPaper).room s m ([.ref cr_h, .int x1, .int x2, .int x3] : List Value).toArray below meth c H locs 0 0 Q (F0 m 16 ls []) := by
    intro n
    induction n with
    | zero => intro x4 x5 h; exact False.elim h
    | succ n ih =>
      intro x4 x5 h H locs ls hP hD hS hl
      refine lv_iload hx hb dX1_hasPaper_16 (lv_at hl 3 rfl) ?_
      refine lv_aload_n hx hb dX1_hasPaper_18 rfl (lv_at hl 0 rfl) ?_
      refine va_get (D := D) (ci := 1) (v := .int cr_papers) (C := RX1) (T := TX1) (N := 10) hx hb hts mi_X1_hasPaper_X1 hown hK hP 0 rfl rfl 7 (by decide) (hts (.fieldLink RX1 43 "HiringHall$Crew" "papers" "I") (List.mem_of_getElem? (i := 2) rfl)) (fun _ h9 => h9) rfl dX1_hasPaper_19 ?_
      refine lv_icmp_ge (tgt := 74) hx hb dX1_hasPaper_22 (by decide) (fun c_1 => ?_) (fun c_1 => ?_)
      · have h := h.1 c_1
        refine lv_iconst (v := 0) hx hb dX1_hasPaper_74 (by decide) ?_
        rw [hQ]
        exact W.zret (v := 0) hx hb hr rfl (fun t ht hW => ⟨⟨0, (), rfl, h, by rw [ht]; exact hP, va_K.moved hW.alike hK, hD⟩, hS.F ht⟩) hS.2.2 dX1_hasPaper_75
      · have h := h.2 c_1
        refine lv_iload hx hb dX1_hasPaper_25 (lv_at hl 2 rfl) ?_
        refine lv_iconst (v := (-1)) hx hb dX1_hasPaper_27 (by decide) ?_
        refine lv_icmp_eq (tgt := 74) hx hb dX1_hasPaper_28 (by decide) (fun c_2 => ?_) (fun c_2 => ?_)
        · have h := h.1 c_2
          refine lv_iconst (v := 0) hx hb dX1_hasPaper_74 (by decide) ?_
          rw [hQ]
          exact W.zret (v := 0) hx hb hr rfl (fun t ht hW => ⟨⟨0, (), rfl, h, by rw [ht]; exact hP, va_K.moved hW.alike hK, hD⟩, hS.F ht⟩) hS.2.2 dX1_hasPaper_75
        · have h := h.2 c_2
          refine lv_aload_n hx hb dX1_hasPaper_31 rfl (lv_at hl 0 rfl) ?_
          refine va_get (D := D) (ci := 1) (v := .ref (cr_ad 6)) (C := RX1) (T := TX1) (N := 10) hx hb hts mi_X1_hasPaper_X1 hown hK hP 0 rfl rfl 6 (by decide) (hts (.fieldLink RX1 27 "HiringHall$Crew" "paperTold" "[I") (List.mem_of_getElem? (i := 3) rfl)) (fun _ h9 => h9) rfl dX1_hasPaper_32 ?_
          refine lv_iload hx hb dX1_hasPaper_35 (lv_at hl 2 rfl) ?_
          obtain ⟨hi_3, h⟩ := h
          refine va_iald hx hb hK hP 6 0 rfl rfl hi_3 dX1_hasPaper_37 ?_
          refine lv_iload_n hx hb dX1_hasPaper_38 rfl (lv_at hl 1 rfl) ?_
          refine lv_icmp_gt (tgt := 59) hx hb dX1_hasPaper_39 (by decide) (fun c_4 => ?_) (fun c_4 => ?_)
          · have h := h.1 c_4
            refine lv_aload_n hx hb dX1_hasPaper_59 rfl (lv_at hl 0 rfl) ?_
            refine va_get (D := D) (ci := 1) (v := .ref (cr_ad 4)) (C := RX1) (T := TX1) (N := 10) hx hb hts mi_X1_hasPaper_X1 hown hK hP 0 rfl rfl 4 (by decide) (hts (.fieldLink RX1 21 "HiringHall$Crew" "paperBefore" "[I") (List.mem_of_getElem? (i := 5) rfl)) (fun _ h9 => h9) rfl dX1_hasPaper_60 ?_
            refine lv_iload hx hb dX1_hasPaper_63 (lv_at hl 2 rfl) ?_
            obtain ⟨hi_5, h⟩ := h
            refine va_iald hx hb hK hP 4 0 rfl rfl hi_5 dX1_hasPaper_65 ?_
            refine lv_topi (fun y6 e_y6 => ?_)
            have h := h y6 e_y6
            refine lv_istore (lv' := [(4, .int y6), (0, .ref cr_h), (3, .int x3), (5, .int x5)]) hx hb dX1_hasPaper_66 hl (by decide) rfl (fun ls hl => ?_)
            obtain ⟨y7, e_y7⟩ : ∃ y : Int32, y = x5 + 1 := ⟨_, rfl⟩
            have h := h y7 e_y7
            refine lv_iinc (v := y7) (lv' := [(5, .int y7), (4, .int y6), (0, .ref cr_h), (3, .int x3)]) hx hb dX1_hasPaper_68 hl (k := 3) rfl (by rw [e_y7]; rfl) (by decide) rfl (fun ls hl => ?_)
            refine lv_goto (tgt := 16) hx hb dX1_hasPaper_71 (by decide) ?_
            exact ih y6 y7 h _ _ _ hP hD hS (lv_sub hl [2, 3, 1, 0] rfl)
          · have h := h.2 c_4
            refine lv_aload_n hx hb dX1_hasPaper_42 rfl (lv_at hl 0 rfl) ?_
            refine va_get (D := D) (ci := 1) (v := .ref (cr_ad 5)) (C := RX1) (T := TX1) (N := 10) hx hb hts mi_X1_hasPaper_X1 hown hK hP 0 rfl rfl 5 (by decide) (hts (.fieldLink RX1 24 "HiringHall$Crew" "paperLast" "[I") (List.mem_of_getElem? (i := 4) rfl)) (fun _ h9 => h9) rfl dX1_hasPaper_43 ?_
            refine lv_iload hx hb dX1_hasPaper_46 (lv_at hl 2 rfl) ?_
            obtain ⟨hi_8, h⟩ := h
            refine va_iald hx hb hK hP 5 0 rfl rfl hi_8 dX1_hasPaper_48 ?_
            refine lv_iload_n hx hb dX1_hasPaper_49 rfl (lv_at hl 1 rfl) ?_
            refine lv_icmp_lt (tgt := 57) hx hb dX1_hasPaper_50 (by decide) (fun c_9 => ?_) (fun c_9 => ?_)
            · have h := h.1 c_9
              refine lv_iconst (v := 0) hx hb dX1_hasPaper_57 (by decide) ?_
              rw [hQ]
              exact W.zret (v := 0) hx hb hr rfl (fun t ht hW => ⟨⟨0, (), rfl, h, by rw [ht]; exact hP, va_K.moved hW.alike hK, hD⟩, hS.F ht⟩) hS.2.2 dX1_hasPaper_58
            · have h := h.2 c_9
              refine lv_iconst (v := 1) hx hb dX1_hasPaper_53 (by decide) ?_
              refine lv_goto (tgt := 58) hx hb dX1_hasPaper_54 (by decide) ?_
              rw [hQ]
              exact W.zret (v := 1) hx hb hr rfl (fun t ht hW => ⟨⟨1, (), rfl, h, by rw [ht]; exact hP, va_K.moved hW.alike hK, hD⟩, hS.F ht⟩) hS.2.2 dX1_hasPaper_58
  refine lv_aload_n hx hb dX1_hasPaper_0 rfl (lv_at hl 0 rfl) ?_
  refine va_get (D := D) (ci := 1) (v := .ref (cr_ad 3)) (C := RX1) (T := TX1) (N := 10) hx hb hts mi_X1_hasPaper_X1 hown hK hP 0 rfl rfl 3 (by decide) (hts (.fieldLink RX1 18 "HiringHall$Crew" "latestPaper" "[I") (List.mem_of_getElem? (i := 1) rfl)) (fun _ h9 => h9) rfl dX1_hasPaper_1 ?_
  refine lv_iload_n hx hb dX1_hasPaper_4 rfl (lv_at hl 1 rfl) ?_
  refine lv_bipush (v := 8) hx hb dX1_hasPaper_5 (by decide) ?_
  refine lv_imul hx hb dX1_hasPaper_7 ?_
  refine lv_iload_n hx hb dX1_hasPaper_8 rfl (lv_at hl 2 rfl) ?_
  refine lv_iadd hx hb dX1_hasPaper_9 ?_
  obtain ⟨hi_10, h⟩ := h
  refine va_iald hx hb hK hP 3 0 rfl rfl hi_10 dX1_hasPaper_10 ?_
  refine lv_topi (fun y11 e_y11 => ?_)
  have h := h y11 e_y11
  refine lv_istore (lv' := [(4, .int y11), (0, .ref cr_h), (1, .int x1), (2, .int x2), (3, .int x3)]) hx hb dX1_hasPaper_11 hl (by decide) rfl (fun ls hl => ?_)
  refine lv_iconst (v := 0) hx hb dX1_hasPaper_13 (by decide) ?_
  refine lv_istore (lv' := [(5, .int 0), (4, .int y11), (0, .ref cr_h), (1, .int x1), (2, .int x2), (3, .int x3)]) hx hb dX1_hasPaper_14 hl (by decide) rfl (fun ls hl => ?_)
  obtain ⟨n, h⟩ := h
  exact b16  n y11 0 h _ _ _ hP hD hS (lv_sub hl [2, 5, 1, 0] rfl)
def rm_X1_addHere : Room := { frames := 0, cells := 0, slots := 0, locals := 0 }
theorem mi_X1_addHere_X1 : ∀ w ∈ wsX10, w ∈ wsX1_addHere := fun _ h => List.mem_cons_of_mem _ (List.mem_append_right _ h)
set_option maxHeartbeats 4000000 in
set_option maxRecDepth 100000 in
theorem c_X1_addHere (l : Launch) (D : va_G) (cI cZ : ClassId) (E : (Nat → Nat) × (Nat → Nat)) (cr_h : Nat) (cr_ad : Nat → Nat) (cr_book : (Nat → Int32)) (cr_signed : (Nat → Int32)) (cr_size : Int32) (cr_latestPaper : (Nat → Int32)) (cr_paperBefore : (Nat → Int32)) (cr_paperLast : (Nat → Int32)) (cr_paperTold : (Nat → Int32)) (cr_papers : Int32) (cr_minutesHere : (Nat → Int32)) (cr_heres : Int32) (x1 : Int32) (x2 : Int32) (x3 : Int32) (x4 : Int32) (K : ((Nat → Int32) → Int32 → Prop)) (h : wp_X1_addHere cr_minutesHere cr_heres x1 x2 x3 x4 K) : mk_Cv l D cI cZ E yX1_addHere wsX1_addHere rm_X1_addHere ([.ref cr_h, .int x1, .int x2, .int x3, .int x4] : List Value) (wo_X1 cI cZ cr_h cr_ad cr_book cr_signed cr_size cr_latestPaper cr_paperBefore cr_paperLast cr_paperTold cr_papers cr_minutesHere cr_heres) (fun (u : (Nat → Int32) × Int32) => (wo_X1 cI cZ cr_h cr_ad cr_book cr_signed cr_size cr_latestPaper cr_paperBefore cr_paperLast cr_paperTold cr_papers u.1 u.2)) (fun (u : (Nat → Int32) × Int32) => K u.1 u.2) := by
  intro sz
  refine Met.ofW (cc := cX1_addHere) (maxL := 5) (ret := none) (by decide) rfl ?_
  intro p e s m args below meth c s₁ B hml hv
  obtain ⟨rfl, hsz, hP, hK, hD0, hN, hE⟩ := hv
  have hx := B.exec
  have hb := B.bytes
  have hr := B.returns
  have hts := atoms_spec (ws := wsX1_addHere) B.pre
  have hown : s.vm.findClass RX1 = some m.cls := findClass_of_methodNamed B.named
  have hlocks := B.notSynchronized
  subst hsz
  have hD := hD0.self (sz := s.heap.size)
  generalize hAe : va_A (wo_X1 cI cZ cr_h cr_ad cr_book cr_signed cr_size cr_latestPaper cr_paperBefore cr_paperLast cr_paperTold cr_papers cr_minutesHere cr_heres) s.heap.size = A at hD hE ⊢
  have hA : ∀ q : Nat, s.heap.size ≤ q → A q := fun q h => by rw [← hAe]; exact Or.inr h
  have hl := lv_entry ([.ref cr_h, .int x1, .int x2, .int x3, .int x4] : List Value) (n := 5) (Nat.le_of_ble_eq_true rfl)
  rw [lg_entry_eq]
  generalize (lg_sl ([.ref cr_h, .int x1, .int x2, .int x3, .int x4] : List Value) ++ List.replicate (5 - (lg_sl ([.ref cr_h, .int x1, .int x2, .int x3, .int x4] : List Value)).length) Slot.unset).toArray = ls at hl ⊢
  have hl : lv_has ls 5 [(0, .ref cr_h), (1, .int x1), (2, .int x2), (3, .int x3), (4, .int x4)] := hl
  refine mk_absQ (P := fun Q => W p l e _ s m _ below meth c s.heap [] 0 0 Q _) (fun Q hQ => ?_)
  refine mk_absH (P := fun H => W p l e _ s m _ below meth c H [] 0 0 Q _) (fun H hH => ?_)
  have hP : va_P D vwCl (wo_X1 cI cZ cr_h cr_ad cr_book cr_signed cr_size cr_latestPaper cr_paperBefore cr_paperLast cr_paperTold cr_papers cr_minutesHere cr_heres) H := by rw [hH]; exact hP
  have hS : va_S A s.heap H [] := by rw [hH]; exact va_S.rf
  refine lv_aload_n hx hb dX1_addHere_0 rfl (lv_at hl 0 rfl) ?_
  refine va_get (D := D) (ci := 1) (v := .ref (cr_ad 8)) (C := RX1) (T := TX1) (N := 10) hx hb hts mi_X1_addHere_X1 hown hK hP 0 rfl rfl 8 (by decide) (hts (.fieldLink RX1 30 "HiringHall$Crew" "minutesHere" "[I") (List.mem_of_getElem? (i := 1) rfl)) (fun _ h9 => h9) rfl dX1_addHere_1 ?_
  refine lv_iload_n hx hb dX1_addHere_4 rfl (lv_at hl 1 rfl) ?_
  refine lv_bipush (v := 100) hx hb dX1_addHere_5 (by decide) ?_
  refine lv_imul hx hb dX1_addHere_7 ?_
  refine lv_iload_n hx hb dX1_addHere_8 rfl (lv_at hl 2 rfl) ?_
  refine lv_iadd hx hb dX1_addHere_9 ?_
  refine lv_iload_n hx hb dX1_addHere_10 rfl (lv_at hl 3 rfl) ?_
  refine lv_sipush (v := 601) hx hb dX1_addHere_11 (by decide) ?_
  refine lv_imul hx hb dX1_addHere_14 ?_
  refine lv_iload hx hb dX1_addHere_15 (lv_at hl 4 rfl) ?_
  refine lv_iadd hx hb dX1_addHere_17 ?_
  refine lv_topi (fun y1 e_y1 => ?_)
  have h := h y1 e_y1
  obtain ⟨hi_2, h⟩ := h
  refine va_iast hx hb hK hP hD hS 7 0 rfl rfl hi_2 dX1_addHere_18 (fun H locs hP hD hS => ?_)
  have hP : va_P D vwCl (wo_X1 cI cZ cr_h cr_ad cr_book cr_signed cr_size cr_latestPaper cr_paperBefore cr_paperLast cr_paperTold cr_papers (upd cr_minutesHere (((x1 * 100) + x2).toNatClampNeg) y1) cr_heres) H := hP
  have hD : va_D A (wo_X1 cI cZ cr_h cr_ad cr_book cr_signed cr_size cr_latestPaper cr_paperBefore cr_paperLast cr_paperTold cr_papers (upd cr_minutesHere (((x1 * 100) + x2).toNatClampNeg) y1) cr_heres) := hD
  refine lv_aload_n hx hb dX1_addHere_19 rfl (lv_at hl 0 rfl) ?_
  refine lv_dup hx hb dX1_addHere_20 rfl ?_
  refine va_get (D := D) (ci := 1) (v := .int cr_heres) (C := RX1) (T := TX1) (N := 10) hx hb hts mi_X1_addHere_X1 hown hK hP 0 rfl rfl 9 (by decide) (hts (.fieldLink RX1 46 "HiringHall$Crew" "heres" "I") (List.mem_of_getElem? (i := 2) rfl)) (fun _ h9 => h9) rfl dX1_addHere_21 ?_
  refine lv_iconst (v := 1) hx hb dX1_addHere_24 (by decide) ?_
  refine lv_iadd hx hb dX1_addHere_25 ?_
  refine lv_topi (fun y3 e_y3 => ?_)
  have h := h y3 e_y3
  refine va_put (D := D) (ci := 1) (v := .int y3) (ty := .int) (C := RX1) (T := TX1) (N := 10) hx hb hts mi_X1_addHere_X1 tyX1 tyX1_ok nmX1 hown hK hP hD hS 0 rfl rfl 9 (by decide) (hts (.fieldLink RX1 46 "HiringHall$Crew" "heres" "I") (List.mem_of_getElem? (i := 2) rfl)) (fun _ h9 => h9) rfl (by decide +kernel) rfl rfl (Nat.le_of_ble_eq_true rfl) dX1_addHere_26 (fun H locs hP hD hS => ?_)
  have hP : va_P D vwCl (wo_X1 cI cZ cr_h cr_ad cr_book cr_signed cr_size cr_latestPaper cr_paperBefore cr_paperLast cr_paperTold cr_papers (upd cr_minutesHere (((x1 * 100) + x2).toNatClampNeg) y1) y3) H := hP
  have hD : va_D A (wo_X1 cI cZ cr_h cr_ad cr_book cr_signed cr_size cr_latestPaper cr_paperBefore cr_paperLast cr_paperTold cr_papers (upd cr_minutesHere (((x1 * 100) + x2).toNatClampNeg) y1) y3) := hD
  rw [hQ]
  exact W.vret hx hb hr (fun t ht hW => ⟨⟨((upd cr_minutesHere (((x1 * 100) + x2).toNatClampNeg) y1), y3), rfl, h, by rw [ht]; exact hP, va_K.moved hW.alike hK, hD⟩, hS.F ht⟩) hS.2.2 dX1_addHere_29
def rm_X1_isHere : Room := { frames := 0, cells := 0, slots := 0, locals := 0 }
theorem mi_X1_isHere_X1 : ∀ w ∈ wsX10, w ∈ wsX1_isHere := fun _ h => List.mem_cons_of_mem _ (List.mem_append_right _ h)
set_option maxHeartbeats 4000000 in
set_option maxRecDepth 100000 in
theorem c_X1_isHere (l : Launch) (D : va_G) (cI cZ : ClassId) (E : (Nat → Nat) × (Nat → Nat)) (cr_h : Nat) (cr_ad : Nat → Nat) (cr_book : (Nat → Int32)) (cr_signed : (Nat → Int32)) (cr_size : Int32) (cr_latestPaper : (Nat → Int32)) (cr_paperBefore : (Nat → Int32)) (cr_paperLast : (Nat → Int32)) (cr_paperTold : (Nat → Int32)) (cr_papers : Int32) (cr_minutesHere : (Nat → Int32)) (cr_heres : Int32) (x1 : Int32) (x2 : Int32) (x3 : Int32) (K : (Int32 → Prop)) (h : wp_X1_isHere cr_minutesHere x1 x2 x3 K) : mk_Ci l D cI cZ E yX1_isHere wsX1_isHere rm_X1_isHere ([.ref cr_h, .int x1, .int x2, .int x3] : List Value) (wo_X1 cI cZ cr_h cr_ad cr_book cr_signed cr_size cr_latestPaper cr_paperBefore cr_paperLast cr_paperTold cr_papers cr_minutesHere cr_heres) (fun (u : Unit) => (wo_X1 cI cZ cr_h cr_ad cr_book cr_signed cr_size cr_latestPaper cr_paperBefore cr_paperLast cr_paperTold cr_papers cr_minutesHere cr_heres)) (fun (r : Int32) (u : Unit) => K r) := by
  intro sz
  refine Met.ofW (cc := cX1_isHere) (maxL := 5) (ret := (some .boolean)) (by decide) rfl ?_
  intro p e s m args below meth c s₁ B hml hv
  obtain ⟨rfl, hsz, hP, hK, hD0, hN, hE⟩ := hv
  have hx := B.exec
  have hb := B.bytes
  have hr := B.returns
  have hts := atoms_spec (ws := wsX1_isHere) B.pre
  have hown : s.vm.findClass RX1 = some m.cls := findClass_of_methodNamed B.named
  have hlocks := B.notSynchronized
  subst hsz
  have hD := hD0.self (sz := s.heap.size)
  generalize hAe : va_A (wo_X1 cI cZ cr_h cr_ad cr_book cr_signed cr_size cr_latestPaper cr_paperBefore cr_paperLast cr_paperTold cr_papers cr_minutesHere cr_heres) s.heap.size = A at hD hE ⊢
  have hA : ∀ q : Nat, s.heap.size ≤ q → A q := fun q h => by rw [← hAe]; exact Or.inr h
  have hl := lv_entry ([.ref cr_h, .int x1, .int x2, .int x3] : List Value) (n := 5) (Nat.le_of_ble_eq_true rfl)
  rw [lg_entry_eq]
  generalize (lg_sl ([.ref cr_h, .int x1, .int x2, .int x3] : List Value) ++ List.replicate (5 - (lg_sl ([.ref cr_h, .int x1, .int x2, .int x3] : List Value)).length) Slot.unset).toArray = ls at hl ⊢
  have hl : lv_has ls 5 [(0, .ref cr_h), (1, .int x1), (2, .int x2), (3, .int x3)] := hl
  refine mk_absQ (P := fun Q => W p l e _ s m _ below meth c s.heap [] 0 0 Q _) (fun Q hQ => ?_)
  refine mk_absH (P := fun H => W p l e _ s m _ below meth c H [] 0 0 Q _) (fun H hH => ?_)
  have hP : va_P D vwCl (wo_X1 cI cZ cr_h cr_ad cr_book cr_signed cr_size cr_latestPaper cr_paperBefore cr_paperLast cr_paperTold cr_papers cr_minutesHere cr_heres) H := by rw [hH]; exact hP
  have hS : va_S A s.heap H [] := by rw [hH]; exact va_S.rf
  refine lv_aload_n hx hb dX1_isHere_0 rfl (lv_at hl 0 rfl) ?_
  refine va_get (D := D) (ci := 1) (v := .ref (cr_ad 8)) (C := RX1) (T := TX1) (N := 10) hx hb hts mi_X1_isHere_X1 hown hK hP 0 rfl rfl 8 (by decide) (hts (.fieldLink RX1 30 "HiringHall$Crew" "minutesHere" "[I") (List.mem_of_getElem? (i := 1) rfl)) (fun _ h9 => h9) rfl dX1_isHere_1 ?_
  refine lv_iload_n hx hb dX1_isHere_4 rfl (lv_at hl 1 rfl) ?_
  refine lv_bipush (v := 100) hx hb dX1_isHere_5 (by decide) ?_
  refine lv_imul hx hb dX1_isHere_7 ?_
  refine lv_iload_n hx hb dX1_isHere_8 rfl (lv_at hl 2 rfl) ?_
  refine lv_iadd hx hb dX1_isHere_9 ?_
  obtain ⟨hi_1, h⟩ := h
  refine va_iald hx hb hK hP 7 0 rfl rfl hi_1 dX1_isHere_10 ?_
  refine lv_topi (fun y2 e_y2 => ?_)
  have h := h y2 e_y2
  refine lv_istore (lv' := [(4, .int y2), (0, .ref cr_h), (1, .int x1), (2, .int x2), (3, .int x3)]) hx hb dX1_isHere_11 hl (by decide) rfl (fun ls hl => ?_)
  refine lv_iload_n hx hb dX1_isHere_13 rfl (lv_at hl 4 rfl) ?_
  refine lv_iload hx hb dX1_isHere_14 (lv_at hl 0 rfl) ?_
  refine lv_sipush (v := 601) hx hb dX1_isHere_16 (by decide) ?_
  refine lv_idiv hx hb dX1_isHere_19 (by decide) ?_
  refine lv_icmp_lt (tgt := 37) hx hb dX1_isHere_20 (by decide) (fun c_3 => ?_) (fun c_3 => ?_)
  · have h := h.1 c_3
    refine lv_iconst (v := 0) hx hb dX1_isHere_37 (by decide) ?_
    rw [hQ]
    exact W.zret (v := 0) hx hb hr rfl (fun t ht hW => ⟨⟨0, (), rfl, h, by rw [ht]; exact hP, va_K.moved hW.alike hK, hD⟩, hS.F ht⟩) hS.2.2 dX1_isHere_38
  · have h := h.2 c_3
    refine lv_iload_n hx hb dX1_isHere_23 rfl (lv_at hl 4 rfl) ?_
    refine lv_iload hx hb dX1_isHere_24 (lv_at hl 0 rfl) ?_
    refine lv_sipush (v := 601) hx hb dX1_isHere_26 (by decide) ?_
    refine lv_irem hx hb dX1_isHere_29 (by decide) ?_
    refine lv_icmp_ge (tgt := 37) hx hb dX1_isHere_30 (by decide) (fun c_4 => ?_) (fun c_4 => ?_)
    · have h := h.1 c_4
      refine lv_iconst (v := 0) hx hb dX1_isHere_37 (by decide) ?_
      rw [hQ]
      exact W.zret (v := 0) hx hb hr rfl (fun t ht hW => ⟨⟨0, (), rfl, h, by rw [ht]; exact hP, va_K.moved hW.alike hK, hD⟩, hS.F ht⟩) hS.2.2 dX1_isHere_38
    · have h := h.2 c_4
      refine lv_iconst (v := 1) hx hb dX1_isHere_33 (by decide) ?_
      refine lv_goto (tgt := 38) hx hb dX1_isHere_34 (by decide) ?_
      rw [hQ]
      exact W.zret (v := 1) hx hb hr rfl (fun t ht hW => ⟨⟨1, (), rfl, h, by rw [ht]; exact hP, va_K.moved hW.alike hK, hD⟩, hS.F ht⟩) hS.2.2 dX1_isHere_38
