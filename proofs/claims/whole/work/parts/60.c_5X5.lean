def rm_X5_add : Room := { frames := 0, cells := 0, slots := 0, locals := 0 }
theorem mi_X5_add_X5 : ∀ w ∈ wsX50, w ∈ wsX5_add := fun _ h => List.mem_cons_of_mem _ (List.mem_append_right _ h)
set_option maxHeartbeats 4000000 in
set_option maxRecDepth 100000 in
theorem c_X5_add (l : Launch) (D : va_G) (cI cZ : ClassId) (E : (Nat → Nat) × (Nat → Nat)) (sh_h : Nat) (sh_ad : Nat → Nat) (ru_h : Nat) (ru_ad : Nat → Nat) (sh_worker : (Nat → Int32)) (sh_day : (Nat → Int32)) (sh_hours : (Nat → Int32)) (sh_told : (Nat → Int32)) (sh_dayTaken : (Nat → Int32)) (sh_size : Int32) (ru_from : (Nat → Int32)) (ru_voted : (Nat → Int32)) (ru_undone : (Nat → Int32)) (ru_says : (Nat → Int32)) (ru_texts : Int32) (ru_lines : Int32) (x1 : Int32) (x2 : Int32) (x3 : Int32) (x4 : Int32) (K : ((Nat → Int32) → (Nat → Int32) → (Nat → Int32) → (Nat → Int32) → Int32 → Prop)) (h : wp_X5_add sh_worker sh_day sh_hours sh_told sh_size x1 x2 x3 x4 K) : mk_Cv l D cI cZ E yX5_add wsX5_add rm_X5_add ([.ref sh_h, .int x1, .int x2, .int x3, .int x4] : List Value) ((wo_X5 cI cZ sh_h sh_ad ru_h sh_worker sh_day sh_hours sh_told sh_dayTaken sh_size) ++ (wo_X4 cI cZ ru_h ru_ad ru_from ru_voted ru_undone ru_says ru_texts ru_lines)) (fun (u : (Nat → Int32) × (Nat → Int32) × (Nat → Int32) × (Nat → Int32) × Int32) => ((wo_X5 cI cZ sh_h sh_ad ru_h u.1 u.2.1 u.2.2.1 u.2.2.2.1 sh_dayTaken u.2.2.2.2) ++ (wo_X4 cI cZ ru_h ru_ad ru_from ru_voted ru_undone ru_says ru_texts ru_lines))) (fun (u : (Nat → Int32) × (Nat → Int32) × (Nat → Int32) × (Nat → Int32) × Int32) => K u.1 u.2.1 u.2.2.1 u.2.2.2.1 u.2.2.2.2) := by
  intro sz
  refine Met.ofW (cc := cX5_add) (maxL := 5) (ret := none) (by decide) rfl ?_
  intro p e s m args below meth c s₁ B hml hv
  obtain ⟨rfl, hsz, hP, hK, hD0, hN, hE⟩ := hv
  have hx := B.exec
  have hb := B.bytes
  have hr := B.returns
  have hts := atoms_spec (ws := wsX5_add) B.pre
  have hown : s.vm.findClass RX5 = some m.cls := findClass_of_methodNamed B.named
  have hlocks := B.notSynchronized
  subst hsz
  have hD := hD0.self (sz := s.heap.size)
  generalize hAe : va_A ((wo_X5 cI cZ sh_h sh_ad ru_h sh_worker sh_day sh_hours sh_told sh_dayTaken sh_size) ++ (wo_X4 cI cZ ru_h ru_ad ru_from ru_voted ru_undone ru_says ru_texts ru_lines)) s.heap.size = A at hD hE ⊢
  have hA : ∀ q : Nat, s.heap.size ≤ q → A q := fun q h => by rw [← hAe]; exact Or.inr h
  have hl := lv_entry ([.ref sh_h, .int x1, .int x2, .int x3, .int x4] : List Value) (n := 5) (Nat.le_of_ble_eq_true rfl)
  rw [lg_entry_eq]
  generalize (lg_sl ([.ref sh_h, .int x1, .int x2, .int x3, .int x4] : List Value) ++ List.replicate (5 - (lg_sl ([.ref sh_h, .int x1, .int x2, .int x3, .int x4] : List Value)).length) Slot.unset).toArray = ls at hl ⊢
  have hl : lv_has ls 5 [(0, .ref sh_h), (1, .int x1), (2, .int x2), (3, .int x3), (4, .int x4)] := hl
  refine mk_absQ (P := fun Q => W p l e _ s m _ below meth c s.heap [] 0 0 Q _) (fun Q hQ => ?_)
  refine mk_absH (P := fun H => W p l e _ s m _ below meth c H [] 0 0 Q _) (fun H hH => ?_)
  have hP : va_P D vwCl ((wo_X5 cI cZ sh_h sh_ad ru_h sh_worker sh_day sh_hours sh_told sh_dayTaken sh_size) ++ (wo_X4 cI cZ ru_h ru_ad ru_from ru_voted ru_undone ru_says ru_texts ru_lines)) H := by rw [hH]; exact hP
  have hS : va_S A s.heap H [] := by rw [hH]; exact va_S.rf
  refine lv_aload_n hx hb dX5_add_0 rfl (lv_at hl 0 rfl) ?_
  refine va_get (D := D) (ci := 5) (v := .ref (sh_ad 1)) (C := RX5) (T := TX5) (N := 7) hx hb hts mi_X5_add_X5 hown hK hP 0 rfl rfl 1 (by decide) (hts (.fieldLink RX5 9 "HiringHall$Sheet" "worker" "[I") (List.mem_of_getElem? (i := 1) rfl)) (fun _ h9 => h9) rfl dX5_add_1 ?_
  refine lv_aload_n hx hb dX5_add_4 rfl (lv_at hl 0 rfl) ?_
  refine va_get (D := D) (ci := 5) (v := .int sh_size) (C := RX5) (T := TX5) (N := 7) hx hb hts mi_X5_add_X5 hown hK hP 0 rfl rfl 6 (by decide) (hts (.fieldLink RX5 31 "HiringHall$Sheet" "size" "I") (List.mem_of_getElem? (i := 2) rfl)) (fun _ h9 => h9) rfl dX5_add_5 ?_
  refine lv_iload_n hx hb dX5_add_8 rfl (lv_at hl 1 rfl) ?_
  obtain ⟨hi_1, h⟩ := h
  refine va_iast hx hb hK hP hD hS 1 0 rfl rfl hi_1 dX5_add_9 (fun H locs hP hD hS => ?_)
  have hP : va_P D vwCl ((wo_X5 cI cZ sh_h sh_ad ru_h (upd sh_worker (sh_size.toNatClampNeg) x1) sh_day sh_hours sh_told sh_dayTaken sh_size) ++ (wo_X4 cI cZ ru_h ru_ad ru_from ru_voted ru_undone ru_says ru_texts ru_lines)) H := hP
  have hD : va_D A ((wo_X5 cI cZ sh_h sh_ad ru_h (upd sh_worker (sh_size.toNatClampNeg) x1) sh_day sh_hours sh_told sh_dayTaken sh_size) ++ (wo_X4 cI cZ ru_h ru_ad ru_from ru_voted ru_undone ru_says ru_texts ru_lines)) := hD
  refine lv_aload_n hx hb dX5_add_10 rfl (lv_at hl 0 rfl) ?_
  refine va_get (D := D) (ci := 5) (v := .ref (sh_ad 2)) (C := RX5) (T := TX5) (N := 7) hx hb hts mi_X5_add_X5 hown hK hP 0 rfl rfl 2 (by decide) (hts (.fieldLink RX5 15 "HiringHall$Sheet" "day" "[I") (List.mem_of_getElem? (i := 3) rfl)) (fun _ h9 => h9) rfl dX5_add_11 ?_
  refine lv_aload_n hx hb dX5_add_14 rfl (lv_at hl 0 rfl) ?_
  refine va_get (D := D) (ci := 5) (v := .int sh_size) (C := RX5) (T := TX5) (N := 7) hx hb hts mi_X5_add_X5 hown hK hP 0 rfl rfl 6 (by decide) (hts (.fieldLink RX5 31 "HiringHall$Sheet" "size" "I") (List.mem_of_getElem? (i := 2) rfl)) (fun _ h9 => h9) rfl dX5_add_15 ?_
  refine lv_iload_n hx hb dX5_add_18 rfl (lv_at hl 2 rfl) ?_
  obtain ⟨hi_2, h⟩ := h
  refine va_iast hx hb hK hP hD hS 2 0 rfl rfl hi_2 dX5_add_19 (fun H locs hP hD hS => ?_)
  have hP : va_P D vwCl ((wo_X5 cI cZ sh_h sh_ad ru_h (upd sh_worker (sh_size.toNatClampNeg) x1) (upd sh_day (sh_size.toNatClampNeg) x2) sh_hours sh_told sh_dayTaken sh_size) ++ (wo_X4 cI cZ ru_h ru_ad ru_from ru_voted ru_undone ru_says ru_texts ru_lines)) H := hP
  have hD : va_D A ((wo_X5 cI cZ sh_h sh_ad ru_h (upd sh_worker (sh_size.toNatClampNeg) x1) (upd sh_day (sh_size.toNatClampNeg) x2) sh_hours sh_told sh_dayTaken sh_size) ++ (wo_X4 cI cZ ru_h ru_ad ru_from ru_voted ru_undone ru_says ru_texts ru_lines)) := hD
  refine lv_aload_n hx hb dX5_add_20 rfl (lv_at hl 0 rfl) ?_
  refine va_get (D := D) (ci := 5) (v := .ref (sh_ad 3)) (C := RX5) (T := TX5) (N := 7) hx hb hts mi_X5_add_X5 hown hK hP 0 rfl rfl 3 (by decide) (hts (.fieldLink RX5 18 "HiringHall$Sheet" "hours" "[I") (List.mem_of_getElem? (i := 4) rfl)) (fun _ h9 => h9) rfl dX5_add_21 ?_
  refine lv_aload_n hx hb dX5_add_24 rfl (lv_at hl 0 rfl) ?_
  refine va_get (D := D) (ci := 5) (v := .int sh_size) (C := RX5) (T := TX5) (N := 7) hx hb hts mi_X5_add_X5 hown hK hP 0 rfl rfl 6 (by decide) (hts (.fieldLink RX5 31 "HiringHall$Sheet" "size" "I") (List.mem_of_getElem? (i := 2) rfl)) (fun _ h9 => h9) rfl dX5_add_25 ?_
  refine lv_iload_n hx hb dX5_add_28 rfl (lv_at hl 3 rfl) ?_
  obtain ⟨hi_3, h⟩ := h
  refine va_iast hx hb hK hP hD hS 3 0 rfl rfl hi_3 dX5_add_29 (fun H locs hP hD hS => ?_)
  have hP : va_P D vwCl ((wo_X5 cI cZ sh_h sh_ad ru_h (upd sh_worker (sh_size.toNatClampNeg) x1) (upd sh_day (sh_size.toNatClampNeg) x2) (upd sh_hours (sh_size.toNatClampNeg) x3) sh_told sh_dayTaken sh_size) ++ (wo_X4 cI cZ ru_h ru_ad ru_from ru_voted ru_undone ru_says ru_texts ru_lines)) H := hP
  have hD : va_D A ((wo_X5 cI cZ sh_h sh_ad ru_h (upd sh_worker (sh_size.toNatClampNeg) x1) (upd sh_day (sh_size.toNatClampNeg) x2) (upd sh_hours (sh_size.toNatClampNeg) x3) sh_told sh_dayTaken sh_size) ++ (wo_X4 cI cZ ru_h ru_ad ru_from ru_voted ru_undone ru_says ru_texts ru_lines)) := hD
  refine lv_aload_n hx hb dX5_add_30 rfl (lv_at hl 0 rfl) ?_
  refine va_get (D := D) (ci := 5) (v := .ref (sh_ad 4)) (C := RX5) (T := TX5) (N := 7) hx hb hts mi_X5_add_X5 hown hK hP 0 rfl rfl 4 (by decide) (hts (.fieldLink RX5 21 "HiringHall$Sheet" "told" "[I") (List.mem_of_getElem? (i := 5) rfl)) (fun _ h9 => h9) rfl dX5_add_31 ?_
  refine lv_aload_n hx hb dX5_add_34 rfl (lv_at hl 0 rfl) ?_
  refine va_get (D := D) (ci := 5) (v := .int sh_size) (C := RX5) (T := TX5) (N := 7) hx hb hts mi_X5_add_X5 hown hK hP 0 rfl rfl 6 (by decide) (hts (.fieldLink RX5 31 "HiringHall$Sheet" "size" "I") (List.mem_of_getElem? (i := 2) rfl)) (fun _ h9 => h9) rfl dX5_add_35 ?_
  refine lv_iload hx hb dX5_add_38 (lv_at hl 4 rfl) ?_
  obtain ⟨hi_4, h⟩ := h
  refine va_iast hx hb hK hP hD hS 4 0 rfl rfl hi_4 dX5_add_40 (fun H locs hP hD hS => ?_)
  have hP : va_P D vwCl ((wo_X5 cI cZ sh_h sh_ad ru_h (upd sh_worker (sh_size.toNatClampNeg) x1) (upd sh_day (sh_size.toNatClampNeg) x2) (upd sh_hours (sh_size.toNatClampNeg) x3) (upd sh_told (sh_size.toNatClampNeg) x4) sh_dayTaken sh_size) ++ (wo_X4 cI cZ ru_h ru_ad ru_from ru_voted ru_undone ru_says ru_texts ru_lines)) H := hP
  have hD : va_D A ((wo_X5 cI cZ sh_h sh_ad ru_h (upd sh_worker (sh_size.toNatClampNeg) x1) (upd sh_day (sh_size.toNatClampNeg) x2) (upd sh_hours (sh_size.toNatClampNeg) x3) (upd sh_told (sh_size.toNatClampNeg) x4) sh_dayTaken sh_size) ++ (wo_X4 cI cZ ru_h ru_ad ru_from ru_voted ru_undone ru_says ru_texts ru_lines)) := hD
  refine lv_aload_n hx hb dX5_add_41 rfl (lv_at hl 0 rfl) ?_
  refine lv_dup hx hb dX5_add_42 rfl ?_
  refine va_get (D := D) (ci := 5) (v := .int sh_size) (C := RX5) (T := TX5) (N := 7) hx hb hts mi_X5_add_X5 hown hK hP 0 rfl rfl 6 (by decide) (hts (.fieldLink RX5 31 "HiringHall$Sheet" "size" "I") (List.mem_of_getElem? (i := 2) rfl)) (fun _ h9 => h9) rfl dX5_add_43 ?_
  refine lv_iconst (v := 1) hx hb dX5_add_46 (by decide) ?_
  refine lv_iadd hx hb dX5_add_47 ?_
  refine lv_topi (fun y5 e_y5 => ?_)
  have h := h y5 e_y5
  refine va_put (D := D) (ci := 5) (v := .int y5) (ty := .int) (C := RX5) (T := TX5) (N := 7) hx hb hts mi_X5_add_X5 tyX5 tyX5_ok nmX5 hown hK hP hD hS 0 rfl rfl 6 (by decide) (hts (.fieldLink RX5 31 "HiringHall$Sheet" "size" "I") (List.mem_of_getElem? (i := 2) rfl)) (fun _ h9 => h9) rfl (by decide +kernel) rfl rfl (Nat.le_of_ble_eq_true rfl) dX5_add_48 (fun H locs hP hD hS => ?_)
  have hP : va_P D vwCl ((wo_X5 cI cZ sh_h sh_ad ru_h (upd sh_worker (sh_size.toNatClampNeg) x1) (upd sh_day (sh_size.toNatClampNeg) x2) (upd sh_hours (sh_size.toNatClampNeg) x3) (upd sh_told (sh_size.toNatClampNeg) x4) sh_dayTaken y5) ++ (wo_X4 cI cZ ru_h ru_ad ru_from ru_voted ru_undone ru_says ru_texts ru_lines)) H := hP
  have hD : va_D A ((wo_X5 cI cZ sh_h sh_ad ru_h (upd sh_worker (sh_size.toNatClampNeg) x1) (upd sh_day (sh_size.toNatClampNeg) x2) (upd sh_hours (sh_size.toNatClampNeg) x3) (upd sh_told (sh_size.toNatClampNeg) x4) sh_dayTaken y5) ++ (wo_X4 cI cZ ru_h ru_ad ru_from ru_voted ru_undone ru_says ru_texts ru_lines)) := hD
  rw [hQ]
  exact W.vret hx hb hr (fun t ht hW => ⟨⟨((upd sh_worker (sh_size.toNatClampNeg) x1), (upd sh_day (sh_size.toNatClampNeg) x2), (upd sh_hours (sh_size.toNatClampNeg) x3), (upd sh_told (sh_size.toNatClampNeg) x4), y5), rfl, h, by rw [ht]; exact hP, va_K.moved hW.alike hK, hD⟩, hS.F ht⟩) hS.2.2 dX5_add_51
def rm_X5_sum : Room := { frames := 2, cells := 0, slots := 0, locals := 47 }
theorem mi_X5_sum_X5 : ∀ w ∈ wsX50, w ∈ wsX5_sum := fun _ h => List.mem_cons_of_mem _ (List.mem_append_left _ (List.mem_append_right _ h))
set_option maxHeartbeats 4000000 in
set_option maxRecDepth 100000 in
theorem c_X5_sum (l : Launch) (D : va_G) (cI cZ : ClassId) (E : (Nat → Nat) × (Nat → Nat)) (sh_h : Nat) (sh_ad : Nat → Nat) (ru_h : Nat) (ru_ad : Nat → Nat) (sh_worker : (Nat → Int32)) (sh_day : (Nat → Int32)) (sh_hours : (Nat → Int32)) (sh_told : (Nat → Int32)) (sh_dayTaken : (Nat → Int32)) (sh_size : Int32) (ru_from : (Nat → Int32)) (ru_voted : (Nat → Int32)) (ru_undone : (Nat → Int32)) (ru_says : (Nat → Int32)) (ru_texts : Int32) (ru_lines : Int32) (x1 : Int32) (x2 : Int32) (x3 : Int32) (K : (Int32 → (Nat → Int32) → Prop)) (h : wp_X5_sum sh_worker sh_day sh_hours sh_told sh_dayTaken sh_size ru_from ru_voted ru_undone ru_says ru_texts x1 x2 x3 K) : mk_Ci l D cI cZ E yX5_sum wsX5_sum rm_X5_sum ([.ref sh_h, .int x1, .int x2, .int x3] : List Value) ((wo_X5 cI cZ sh_h sh_ad ru_h sh_worker sh_day sh_hours sh_told sh_dayTaken sh_size) ++ (wo_X4 cI cZ ru_h ru_ad ru_from ru_voted ru_undone ru_says ru_texts ru_lines)) (fun (u : (Nat → Int32)) => ((wo_X5 cI cZ sh_h sh_ad ru_h sh_worker sh_day sh_hours sh_told u sh_size) ++ (wo_X4 cI cZ ru_h ru_ad ru_from ru_voted ru_undone ru_says ru_texts ru_lines))) (fun (r : Int32) (u : (Nat → Int32)) => K r u) := by
  intro sz
  refine Met.ofW (cc := cX5_sum) (maxL := 6) (ret := (some .int)) (by decide) rfl ?_
  intro p e s m args below meth c s₁ B hml hv
  obtain ⟨rfl, hsz, hP, hK, hD0, hN, hE⟩ := hv
  have hx := B.exec
  have hb := B.bytes
  have hr := B.returns
  have hts := atoms_spec (ws := wsX5_sum) B.pre
  have hown : s.vm.findClass RX5 = some m.cls := findClass_of_methodNamed B.named
  have hlocks := B.notSynchronized
  subst hsz
  have hD := hD0.self (sz := s.heap.size)
  generalize hAe : va_A ((wo_X5 cI cZ sh_h sh_ad ru_h sh_worker sh_day sh_hours sh_told sh_dayTaken sh_size) ++ (wo_X4 cI cZ ru_h ru_ad ru_from ru_voted ru_undone ru_says ru_texts ru_lines)) s.heap.size = A at hD hE ⊢
  have hA : ∀ q : Nat, s.heap.size ≤ q → A q := fun q h => by rw [← hAe]; exact Or.inr h
  have hl := lv_entry ([.ref sh_h, .int x1, .int x2, .int x3] : List Value) (n := 6) (Nat.le_of_ble_eq_true rfl)
  rw [lg_entry_eq]
  generalize (lg_sl ([.ref sh_h, .int x1, .int x2, .int x3] : List Value) ++ List.replicate (6 - (lg_sl ([.ref sh_h, .int x1, .int x2, .int x3] : List Value)).length) Slot.unset).toArray = ls at hl ⊢
  have hl : lv_has ls 6 [(0, .ref sh_h), (1, .int x1), (2, .int x2), (3, .int x3)] := hl
  refine mk_absQ (P := fun Q => W p l e _ s m _ below meth c s.heap [] 0 0 Q _) (fun Q hQ => ?_)
  refine mk_absH (P := fun H => W p l e _ s m _ below meth c H [] 0 0 Q _) (fun H hH => ?_)
  have hP : va_P D vwCl ((wo_X5 cI cZ sh_h sh_ad ru_h sh_worker sh_day sh_hours sh_told sh_dayTaken sh_size) ++ (wo_X4 cI cZ ru_h ru_ad ru_from ru_voted ru_undone ru_says ru_texts ru_lines)) H := by rw [hH]; exact hP
  have hS : va_S A s.heap H [] := by rw [hH]; exact va_S.rf
  have b19 : ∀ (n : Nat), ∀ (sh_dayTaken : (Nat → Int32)) (x4 : Int32) (x5 : Int32), wp_X5_sum_b19 K sh_worker sh_day sh_hours sh_told ru_from ru_voted ru_undone ru_says ru_texts x1 x2 x3 n sh_dayTaken x4 x5 → ∀ (H : Heap) (locs : List Loc) (ls : Array Slot), va_P D vwCl ((wo_X5 cI cZ sh_h sh_ad ru_h sh_worker sh_day sh_hours sh_told sh_dayTaken sh_size) ++ (wo_X4 cI cZ ru_h ru_ad ru_from ru_voted ru_undone ru_says ru_texts ru_lines)) H → va_D A ((wo_X5 cI cZ sh_h sh_ad ru_h sh_worker sh_day sh_hours sh_told sh_dayTaken sh_size) ++ (wo_X4 cI cZ ru_h ru_ad ru_from ru_voted ru_undone ru_says ru_texts ru_lines)) → va_S A s.heap H locs → lv_has ls 6 [(0, .ref sh_h), (1, .int x1), (2, .int x2), (3, .int x3), (4, .int x4), (5, .int x5)] → W p l e (headSpec wsX5_sum rm_X5_sum).room s m ([.ref sh_h, .int x1, .int x2, .int x3] : List Value).toArray below meth c H locs 0 0 Q (F0 m 19 ls []) := by
    intro n
    induction n with
    | zero => intro sh_dayTaken x4 x5 h; exact False.elim h
    | succ n ih =>
      intro sh_dayTaken x4 x5 h H locs ls hP hD hS hl
      refine lv_iload hx hb dX5_sum_19 (lv_at hl 5 rfl) ?_
      refine lv_if_lt (tgt := 111) hx hb dX5_sum_21 (by decide) (fun c_1 => ?_) (fun c_1 => ?_)
      · have h := h.1 c_1
        refine lv_iload hx hb dX5_sum_111 (lv_at hl 4 rfl) ?_
        rw [hQ]
        exact W.iret (v := x4) hx hb hr (fun t ht hW => ⟨⟨x4, (sh_dayTaken), rfl, h, by rw [ht]; exact hP, va_K.moved hW.alike hK, hD⟩, hS.F ht⟩) hS.2.2 dX5_sum_113
      · have h := h.2 c_1
        refine lv_aload_n hx hb dX5_sum_24 rfl (lv_at hl 0 rfl) ?_
        refine va_get (D := D) (ci := 5) (v := .ref (sh_ad 1)) (C := RX5) (T := TX5) (N := 7) hx hb hts mi_X5_sum_X5 hown hK hP 0 rfl rfl 1 (by decide) (hts (.fieldLink RX5 9 "HiringHall$Sheet" "worker" "[I") (List.mem_of_getElem? (i := 3) rfl)) (fun _ h9 => h9) rfl dX5_sum_25 ?_
        refine lv_iload hx hb dX5_sum_28 (lv_at hl 5 rfl) ?_
        obtain ⟨hi_2, h⟩ := h
        refine va_iald hx hb hK hP 1 0 rfl rfl hi_2 dX5_sum_30 ?_
        refine lv_iload_n hx hb dX5_sum_31 rfl (lv_at hl 1 rfl) ?_
        refine lv_icmp_ne (tgt := 105) hx hb dX5_sum_32 (by decide) (fun c_3 => ?_) (fun c_3 => ?_)
        · have h := h.1 c_3
          obtain ⟨y4, e_y4⟩ : ∃ y : Int32, y = x5 + (-1) := ⟨_, rfl⟩
          have h := h y4 e_y4
          refine lv_iinc (v := y4) (lv' := [(5, .int y4), (0, .ref sh_h), (1, .int x1), (2, .int x2), (3, .int x3), (4, .int x4)]) hx hb dX5_sum_105 hl (k := 5) rfl (by rw [e_y4]; rfl) (by decide) rfl (fun ls hl => ?_)
          refine lv_goto (tgt := 19) hx hb dX5_sum_108 (by decide) ?_
          exact ih sh_dayTaken x4 y4 h _ _ _ hP hD hS (lv_sub hl [1, 2, 3, 4, 5, 0] rfl)
        · have h := h.2 c_3
          refine lv_aload_n hx hb dX5_sum_35 rfl (lv_at hl 0 rfl) ?_
          refine va_get (D := D) (ci := 5) (v := .ref (sh_ad 4)) (C := RX5) (T := TX5) (N := 7) hx hb hts mi_X5_sum_X5 hown hK hP 0 rfl rfl 4 (by decide) (hts (.fieldLink RX5 21 "HiringHall$Sheet" "told" "[I") (List.mem_of_getElem? (i := 4) rfl)) (fun _ h9 => h9) rfl dX5_sum_36 ?_
          refine lv_iload hx hb dX5_sum_39 (lv_at hl 5 rfl) ?_
          obtain ⟨hi_5, h⟩ := h
          refine va_iald hx hb hK hP 4 0 rfl rfl hi_5 dX5_sum_41 ?_
          refine lv_iload_n hx hb dX5_sum_42 rfl (lv_at hl 3 rfl) ?_
          refine lv_icmp_gt (tgt := 105) hx hb dX5_sum_43 (by decide) (fun c_6 => ?_) (fun c_6 => ?_)
          · have h := h.1 c_6
            obtain ⟨y7, e_y7⟩ : ∃ y : Int32, y = x5 + (-1) := ⟨_, rfl⟩
            have h := h y7 e_y7
            refine lv_iinc (v := y7) (lv' := [(5, .int y7), (0, .ref sh_h), (1, .int x1), (2, .int x2), (3, .int x3), (4, .int x4)]) hx hb dX5_sum_105 hl (k := 5) rfl (by rw [e_y7]; rfl) (by decide) rfl (fun ls hl => ?_)
            refine lv_goto (tgt := 19) hx hb dX5_sum_108 (by decide) ?_
            exact ih sh_dayTaken x4 y7 h _ _ _ hP hD hS (lv_sub hl [1, 2, 3, 4, 5, 0] rfl)
          · have h := h.2 c_6
            refine lv_aload_n hx hb dX5_sum_46 rfl (lv_at hl 0 rfl) ?_
            refine va_get (D := D) (ci := 5) (v := .ref (sh_ad 5)) (C := RX5) (T := TX5) (N := 7) hx hb hts mi_X5_sum_X5 hown hK hP 0 rfl rfl 5 (by decide) (hts (.fieldLink RX5 24 "HiringHall$Sheet" "dayTaken" "[I") (List.mem_of_getElem? (i := 1) rfl)) (fun _ h9 => h9) rfl dX5_sum_47 ?_
            refine lv_aload_n hx hb dX5_sum_50 rfl (lv_at hl 0 rfl) ?_
            refine va_get (D := D) (ci := 5) (v := .ref (sh_ad 2)) (C := RX5) (T := TX5) (N := 7) hx hb hts mi_X5_sum_X5 hown hK hP 0 rfl rfl 2 (by decide) (hts (.fieldLink RX5 15 "HiringHall$Sheet" "day" "[I") (List.mem_of_getElem? (i := 5) rfl)) (fun _ h9 => h9) rfl dX5_sum_51 ?_
            refine lv_iload hx hb dX5_sum_54 (lv_at hl 5 rfl) ?_
            obtain ⟨hi_8, h⟩ := h
            refine va_iald hx hb hK hP 2 0 rfl rfl hi_8 dX5_sum_56 ?_
            obtain ⟨hi_9, h⟩ := h
            refine va_iald hx hb hK hP 5 0 rfl rfl hi_9 dX5_sum_57 ?_
            refine lv_if_ne (tgt := 105) hx hb dX5_sum_58 (by decide) (fun c_10 => ?_) (fun c_10 => ?_)
            · have h := h.1 c_10
              obtain ⟨y11, e_y11⟩ : ∃ y : Int32, y = x5 + (-1) := ⟨_, rfl⟩
              have h := h y11 e_y11
              refine lv_iinc (v := y11) (lv' := [(5, .int y11), (0, .ref sh_h), (1, .int x1), (2, .int x2), (3, .int x3), (4, .int x4)]) hx hb dX5_sum_105 hl (k := 5) rfl (by rw [e_y11]; rfl) (by decide) rfl (fun ls hl => ?_)
              refine lv_goto (tgt := 19) hx hb dX5_sum_108 (by decide) ?_
              exact ih sh_dayTaken x4 y11 h _ _ _ hP hD hS (lv_sub hl [1, 2, 3, 4, 5, 0] rfl)
            · have h := h.2 c_10
              refine lv_aload_n hx hb dX5_sum_61 rfl (lv_at hl 0 rfl) ?_
              refine va_get (D := D) (ci := 5) (v := .ref (sh_ad 5)) (C := RX5) (T := TX5) (N := 7) hx hb hts mi_X5_sum_X5 hown hK hP 0 rfl rfl 5 (by decide) (hts (.fieldLink RX5 24 "HiringHall$Sheet" "dayTaken" "[I") (List.mem_of_getElem? (i := 1) rfl)) (fun _ h9 => h9) rfl dX5_sum_62 ?_
              refine lv_aload_n hx hb dX5_sum_65 rfl (lv_at hl 0 rfl) ?_
              refine va_get (D := D) (ci := 5) (v := .ref (sh_ad 2)) (C := RX5) (T := TX5) (N := 7) hx hb hts mi_X5_sum_X5 hown hK hP 0 rfl rfl 2 (by decide) (hts (.fieldLink RX5 15 "HiringHall$Sheet" "day" "[I") (List.mem_of_getElem? (i := 5) rfl)) (fun _ h9 => h9) rfl dX5_sum_66 ?_
              refine lv_iload hx hb dX5_sum_69 (lv_at hl 5 rfl) ?_
              obtain ⟨hi_12, h⟩ := h
              refine va_iald hx hb hK hP 2 0 rfl rfl hi_12 dX5_sum_71 ?_
              refine lv_iconst (v := 1) hx hb dX5_sum_72 (by decide) ?_
              obtain ⟨hi_13, h⟩ := h
              refine va_iast hx hb hK hP hD hS 5 0 rfl rfl hi_13 dX5_sum_73 (fun H locs hP hD hS => ?_)
              have hP : va_P D vwCl ((wo_X5 cI cZ sh_h sh_ad ru_h sh_worker sh_day sh_hours sh_told (upd sh_dayTaken ((sh_day (x5.toNatClampNeg)).toNatClampNeg) 1) sh_size) ++ (wo_X4 cI cZ ru_h ru_ad ru_from ru_voted ru_undone ru_says ru_texts ru_lines)) H := hP
              have hD : va_D A ((wo_X5 cI cZ sh_h sh_ad ru_h sh_worker sh_day sh_hours sh_told (upd sh_dayTaken ((sh_day (x5.toNatClampNeg)).toNatClampNeg) 1) sh_size) ++ (wo_X4 cI cZ ru_h ru_ad ru_from ru_voted ru_undone ru_says ru_texts ru_lines)) := hD
              refine lv_iload hx hb dX5_sum_74 (lv_at hl 4 rfl) ?_
              refine lv_aload_n hx hb dX5_sum_76 rfl (lv_at hl 0 rfl) ?_
              refine va_get (D := D) (ci := 5) (v := .ref (sh_ad 3)) (C := RX5) (T := TX5) (N := 7) hx hb hts mi_X5_sum_X5 hown hK hP 0 rfl rfl 3 (by decide) (hts (.fieldLink RX5 18 "HiringHall$Sheet" "hours" "[I") (List.mem_of_getElem? (i := 6) rfl)) (fun _ h9 => h9) rfl dX5_sum_77 ?_
              refine lv_iload hx hb dX5_sum_80 (lv_at hl 5 rfl) ?_
              obtain ⟨hi_14, h⟩ := h
              refine va_iald hx hb hK hP 3 0 rfl rfl hi_14 dX5_sum_82 ?_
              refine lv_aload_n hx hb dX5_sum_83 rfl (lv_at hl 0 rfl) ?_
              refine va_get (D := D) (ci := 5) (v := .ref ru_h) (C := RX5) (T := TX5) (N := 7) hx hb hts mi_X5_sum_X5 hown hK hP 0 rfl rfl 0 (by decide) (hts (.fieldLink RX5 27 "HiringHall$Sheet" "rules" "LHiringHall$Rules;") (List.mem_of_getElem? (i := 7) rfl)) (fun _ h9 => h9) rfl dX5_sum_84 ?_
              refine lv_iconst (v := 5) hx hb dX5_sum_87 (by decide) ?_
              refine lv_iload_n hx hb dX5_sum_88 rfl (lv_at hl 2 rfl) ?_
              refine lv_iadd hx hb dX5_sum_89 ?_
              refine lv_aload_n hx hb dX5_sum_90 rfl (lv_at hl 0 rfl) ?_
              refine va_get (D := D) (ci := 5) (v := .ref (sh_ad 2)) (C := RX5) (T := TX5) (N := 7) hx hb hts mi_X5_sum_X5 hown hK hP 0 rfl rfl 2 (by decide) (hts (.fieldLink RX5 15 "HiringHall$Sheet" "day" "[I") (List.mem_of_getElem? (i := 5) rfl)) (fun _ h9 => h9) rfl dX5_sum_91 ?_
              refine lv_iload hx hb dX5_sum_94 (lv_at hl 5 rfl) ?_
              obtain ⟨hi_15, h⟩ := h
              refine va_iald hx hb hK hP 2 0 rfl rfl hi_15 dX5_sum_96 ?_
              refine lv_iload_n hx hb dX5_sum_97 rfl (lv_at hl 3 rfl) ?_
              have hP : va_P D vwCl ((fun v => (wo_X5 cI cZ sh_h sh_ad ru_h sh_worker sh_day sh_hours sh_told (upd sh_dayTaken ((sh_day (x5.toNatClampNeg)).toNatClampNeg) 1) sh_size) ++ v) (wo_X4 cI cZ ru_h ru_ad ru_from ru_voted ru_undone ru_says ru_texts ru_lines)) H := hP
              have hD : va_D A ((fun v => (wo_X5 cI cZ sh_h sh_ad ru_h sh_worker sh_day sh_hours sh_told (upd sh_dayTaken ((sh_day (x5.toNatClampNeg)).toNatClampNeg) 1) sh_size) ++ v) (wo_X4 cI cZ ru_h ru_ad ru_from ru_voted ru_undone ru_says ru_texts ru_lines)) := hD
              refine mk_ci (f := fun v => (wo_X5 cI cZ sh_h sh_ad ru_h sh_worker sh_day sh_hours sh_told (upd sh_dayTaken ((sh_day (x5.toNatClampNeg)).toNatClampNeg) 1) sh_size) ++ v) (mk_fr_end _) (va_runVN (As := [.int (5 + x2), .int (sh_day (x5.toNatClampNeg)), .int x3]) (rest := [.int (sh_hours (x5.toNatClampNeg)), .int x4]) ⟨hx, hb, hml, hown, hts⟩ (c_X4_said l D cI cZ E ru_h ru_ad ru_from ru_voted ru_undone ru_says ru_texts ru_lines (5 + x2) (sh_day (x5.toNatClampNeg)) x3 _ h H.size) ⟨va_cnB 3 hts gX5_sum_X4_said_n41 rfl rfl rfl (hN.2 (RX5, 41, yX4_said, RX7) (List.mem_of_getElem? (i := 30) rfl)) (hts (.initialized RX4) (List.mem_of_getElem? (i := 13) rfl)) (by decide +kernel) ⟨Nat.le_of_ble_eq_true rfl, Nat.le_of_ble_eq_true rfl⟩, hts (.instanceMethod yX4_said) (List.mem_of_getElem? (i := 12) rfl), hts (.selects RX4 yX4_said yX4_said) (List.mem_of_getElem? (i := 14) rfl)⟩ (mk_preV (ci := 4) (mk_fr_end _) hK hN hE hS hA hP hD rfl rfl) rfl rfl hl.1 rfl (lv_room (Nat.le_of_ble_eq_true rfl)) dX5_sum_98 ⟨Nat.le_of_ble_eq_true rfl, Nat.le_of_ble_eq_true rfl⟩) hP hD hS hA (fun r16 u H locs h hP hD hS => ?_)
              try dsimp only at h
              have hP : va_P D vwCl ((wo_X5 cI cZ sh_h sh_ad ru_h sh_worker sh_day sh_hours sh_told (upd sh_dayTaken ((sh_day (x5.toNatClampNeg)).toNatClampNeg) 1) sh_size) ++ (wo_X4 cI cZ ru_h ru_ad ru_from ru_voted ru_undone ru_says ru_texts ru_lines)) H := hP
              have hD : va_D A ((wo_X5 cI cZ sh_h sh_ad ru_h sh_worker sh_day sh_hours sh_told (upd sh_dayTaken ((sh_day (x5.toNatClampNeg)).toNatClampNeg) 1) sh_size) ++ (wo_X4 cI cZ ru_h ru_ad ru_from ru_voted ru_undone ru_says ru_texts ru_lines)) := hD
              refine lv_imul hx hb dX5_sum_101 ?_
              refine lv_iadd hx hb dX5_sum_102 ?_
              refine lv_topi (fun y17 e_y17 => ?_)
              have h := h y17 e_y17
              refine lv_istore (lv' := [(4, .int y17), (0, .ref sh_h), (1, .int x1), (2, .int x2), (3, .int x3), (5, .int x5)]) hx hb dX5_sum_103 hl (by decide) rfl (fun ls hl => ?_)
              obtain ⟨y18, e_y18⟩ : ∃ y : Int32, y = x5 + (-1) := ⟨_, rfl⟩
              have h := h y18 e_y18
              refine lv_iinc (v := y18) (lv' := [(5, .int y18), (4, .int y17), (0, .ref sh_h), (1, .int x1), (2, .int x2), (3, .int x3)]) hx hb dX5_sum_105 hl (k := 5) rfl (by rw [e_y18]; rfl) (by decide) rfl (fun ls hl => ?_)
              refine lv_goto (tgt := 19) hx hb dX5_sum_108 (by decide) ?_
              exact ih (upd sh_dayTaken ((sh_day (x5.toNatClampNeg)).toNatClampNeg) 1) y17 y18 h _ _ _ hP hD hS (lv_sub hl [2, 3, 4, 5, 1, 0] rfl)
  refine lv_aload_n hx hb dX5_sum_0 rfl (lv_at hl 0 rfl) ?_
  refine va_get (D := D) (ci := 5) (v := .ref (sh_ad 5)) (C := RX5) (T := TX5) (N := 7) hx hb hts mi_X5_sum_X5 hown hK hP 0 rfl rfl 5 (by decide) (hts (.fieldLink RX5 24 "HiringHall$Sheet" "dayTaken" "[I") (List.mem_of_getElem? (i := 1) rfl)) (fun _ h9 => h9) rfl dX5_sum_1 ?_
  refine lv_iconst (v := 0) hx hb dX5_sum_4 (by decide) ?_
  have hP : va_P D vwCl ((((wo_X5 cI cZ sh_h sh_ad ru_h sh_worker sh_day sh_hours sh_told sh_dayTaken sh_size) ++ (wo_X4 cI cZ ru_h ru_ad ru_from ru_voted ru_undone ru_says ru_texts ru_lines)).take 5) ++ (([((sh_ad 5), .inl (cI, 100, .inl sh_dayTaken))] : va_W) ++ (((wo_X5 cI cZ sh_h sh_ad ru_h sh_worker sh_day sh_hours sh_told sh_dayTaken sh_size) ++ (wo_X4 cI cZ ru_h ru_ad ru_from ru_voted ru_undone ru_says ru_texts ru_lines)).drop 6))) H := hP
  have hD : va_D A ((((wo_X5 cI cZ sh_h sh_ad ru_h sh_worker sh_day sh_hours sh_told sh_dayTaken sh_size) ++ (wo_X4 cI cZ ru_h ru_ad ru_from ru_voted ru_undone ru_says ru_texts ru_lines)).take 5) ++ (([((sh_ad 5), .inl (cI, 100, .inl sh_dayTaken))] : va_W) ++ (((wo_X5 cI cZ sh_h sh_ad ru_h sh_worker sh_day sh_hours sh_told sh_dayTaken sh_size) ++ (wo_X4 cI cZ ru_h ru_ad ru_from ru_voted ru_undone ru_says ru_texts ru_lines)).drop 6))) := hD
  refine mk_cv (f := fun v => (((wo_X5 cI cZ sh_h sh_ad ru_h sh_worker sh_day sh_hours sh_told sh_dayTaken sh_size) ++ (wo_X4 cI cZ ru_h ru_ad ru_from ru_voted ru_undone ru_says ru_texts ru_lines)).take 5) ++ (v ++ (((wo_X5 cI cZ sh_h sh_ad ru_h sh_worker sh_day sh_hours sh_told sh_dayTaken sh_size) ++ (wo_X4 cI cZ ru_h ru_ad ru_from ru_voted ru_undone ru_says ru_texts ru_lines)).drop 6))) (mk_fr_mid _ _) (va_runS (As := [.ref (sh_ad 5), .int 0]) (rest := []) ⟨hx, hb, hml, hown, hts⟩ (c_fill l D cI cZ E (sh_ad 5) 100 sh_dayTaken 0 (by decide) H.size) (va_cwS 2 hts gX5_sum_J7_fill_53178 rfl rfl rfl (by decide +kernel) ⟨Nat.le_of_ble_eq_true rfl, Nat.le_of_ble_eq_true rfl⟩) (mk_preS (mk_fr_mid _ _) hK hN hE hS hA hP hD) rfl rfl hl.1 rfl (lv_room (Nat.le_of_ble_eq_true rfl)) dX5_sum_5 ⟨Nat.le_of_ble_eq_true rfl, Nat.le_of_ble_eq_true rfl⟩) hP hD hS hA (fun u H locs hu hP hD hS => ?_)
  subst hu
  have hP : va_P D vwCl ((wo_X5 cI cZ sh_h sh_ad ru_h sh_worker sh_day sh_hours sh_told (mk_fill 100 0 sh_dayTaken) sh_size) ++ (wo_X4 cI cZ ru_h ru_ad ru_from ru_voted ru_undone ru_says ru_texts ru_lines)) H := hP
  have hD : va_D A ((wo_X5 cI cZ sh_h sh_ad ru_h sh_worker sh_day sh_hours sh_told (mk_fill 100 0 sh_dayTaken) sh_size) ++ (wo_X4 cI cZ ru_h ru_ad ru_from ru_voted ru_undone ru_says ru_texts ru_lines)) := hD
  refine lv_iconst (v := 0) hx hb dX5_sum_8 (by decide) ?_
  refine lv_istore (lv' := [(4, .int 0), (0, .ref sh_h), (1, .int x1), (2, .int x2), (3, .int x3)]) hx hb dX5_sum_9 hl (by decide) rfl (fun ls hl => ?_)
  refine lv_aload_n hx hb dX5_sum_11 rfl (lv_at hl 1 rfl) ?_
  refine va_get (D := D) (ci := 5) (v := .int sh_size) (C := RX5) (T := TX5) (N := 7) hx hb hts mi_X5_sum_X5 hown hK hP 0 rfl rfl 6 (by decide) (hts (.fieldLink RX5 31 "HiringHall$Sheet" "size" "I") (List.mem_of_getElem? (i := 2) rfl)) (fun _ h9 => h9) rfl dX5_sum_12 ?_
  refine lv_iconst (v := 1) hx hb dX5_sum_15 (by decide) ?_
  refine lv_isub hx hb dX5_sum_16 ?_
  refine lv_topi (fun y19 e_y19 => ?_)
  have h := h y19 e_y19
  refine lv_istore (lv' := [(5, .int y19), (4, .int 0), (0, .ref sh_h), (1, .int x1), (2, .int x2), (3, .int x3)]) hx hb dX5_sum_17 hl (by decide) rfl (fun ls hl => ?_)
  obtain ⟨n, h⟩ := h
  exact b19  n (mk_fill 100 0 sh_dayTaken) 0 y19 h _ _ _ hP hD hS (lv_sub hl [2, 3, 4, 5, 1, 0] rfl)
