def rm_X6_byteAt : Room := { frames := 0, cells := 0, slots := 0, locals := 0 }
theorem mi_X6_byteAt_X6 : ∀ w ∈ wsX60, w ∈ wsX6_byteAt := fun _ h => List.mem_cons_of_mem _ (List.mem_append_right _ h)
set_option maxHeartbeats 4000000 in
set_option maxRecDepth 100000 in
theorem c_X6_byteAt (l : Launch) (D : va_G) (cI cZ : ClassId) (E : (Nat → Nat) × (Nat → Nat)) (tp_h : Nat) (tp_ad : Nat → Nat) (tp_words : (Nat → Int32)) (tp_length : Int32) (x1 : Int32) (K : (Int32 → Prop)) (h : wp_X6_byteAt tp_words tp_length x1 K) : mk_Ci l D cI cZ E yX6_byteAt wsX6_byteAt rm_X6_byteAt ([.ref tp_h, .int x1] : List Value) (wo_X6 cI cZ tp_h tp_ad tp_words tp_length) (fun (u : Unit) => (wo_X6 cI cZ tp_h tp_ad tp_words tp_length)) (fun (r : Int32) (u : Unit) => K r) := by
  intro sz
  refine Met.ofW (cc := cX6_byteAt) (maxL := 2) (ret := (some .int)) (by decide) rfl ?_
  intro p e s m args below meth c s₁ B hml hv
  obtain ⟨rfl, hsz, hP, hK, hD0, hN, hE⟩ := hv
  have hx := B.exec
  have hb := B.bytes
  have hr := B.returns
  have hts := atoms_spec (ws := wsX6_byteAt) B.pre
  have hown : s.vm.findClass RX6 = some m.cls := findClass_of_methodNamed B.named
  have hlocks := B.notSynchronized
  subst hsz
  have hD := hD0.self (sz := s.heap.size)
  generalize hAe : va_A (wo_X6 cI cZ tp_h tp_ad tp_words tp_length) s.heap.size = A at hD hE ⊢
  have hA : ∀ q : Nat, s.heap.size ≤ q → A q := fun q h => by rw [← hAe]; exact Or.inr h
  have hl := lv_entry ([.ref tp_h, .int x1] : List Value) (n := 2) (Nat.le_of_ble_eq_true rfl)
  rw [lg_entry_eq]
  generalize (lg_sl ([.ref tp_h, .int x1] : List Value) ++ List.replicate (2 - (lg_sl ([.ref tp_h, .int x1] : List Value)).length) Slot.unset).toArray = ls at hl ⊢
  have hl : lv_has ls 2 [(0, .ref tp_h), (1, .int x1)] := hl
  refine mk_absQ (P := fun Q => W p l e _ s m _ below meth c s.heap [] 0 0 Q _) (fun Q hQ => ?_)
  refine mk_absH (P := fun H => W p l e _ s m _ below meth c H [] 0 0 Q _) (fun H hH => ?_)
  have hP : va_P D vwCl (wo_X6 cI cZ tp_h tp_ad tp_words tp_length) H := by rw [hH]; exact hP
  have hS : va_S A s.heap H [] := by rw [hH]; exact va_S.rf
  refine lv_iload_n hx hb dX6_byteAt_0 rfl (lv_at hl 1 rfl) ?_
  refine lv_if_lt (tgt := 12) hx hb dX6_byteAt_1 (by decide) (fun c_1 => ?_) (fun c_1 => ?_)
  · have h := h.1 c_1
    refine lv_iconst (v := (-1)) hx hb dX6_byteAt_12 (by decide) ?_
    rw [hQ]
    exact W.iret (v := (-1)) hx hb hr (fun t ht hW => ⟨⟨(-1), (), rfl, h, by rw [ht]; exact hP, va_K.moved hW.alike hK, hD⟩, hS.F ht⟩) hS.2.2 dX6_byteAt_13
  · have h := h.2 c_1
    refine lv_iload_n hx hb dX6_byteAt_4 rfl (lv_at hl 1 rfl) ?_
    refine lv_aload_n hx hb dX6_byteAt_5 rfl (lv_at hl 0 rfl) ?_
    refine va_get (D := D) (ci := 6) (v := .int tp_length) (C := RX6) (T := TX6) (N := 2) hx hb hts mi_X6_byteAt_X6 hown hK hP 0 rfl rfl 1 (by decide) (hts (.fieldLink RX6 15 "HiringHall$Tape" "length" "I") (List.mem_of_getElem? (i := 1) rfl)) (fun _ h9 => h9) rfl dX6_byteAt_6 ?_
    refine lv_icmp_lt (tgt := 14) hx hb dX6_byteAt_9 (by decide) (fun c_2 => ?_) (fun c_2 => ?_)
    · have h := h.1 c_2
      refine lv_aload_n hx hb dX6_byteAt_14 rfl (lv_at hl 0 rfl) ?_
      refine va_get (D := D) (ci := 6) (v := .ref (tp_ad 0)) (C := RX6) (T := TX6) (N := 2) hx hb hts mi_X6_byteAt_X6 hown hK hP 0 rfl rfl 0 (by decide) (hts (.fieldLink RX6 9 "HiringHall$Tape" "words" "[I") (List.mem_of_getElem? (i := 2) rfl)) (fun _ h9 => h9) rfl dX6_byteAt_15 ?_
      refine lv_iload_n hx hb dX6_byteAt_18 rfl (lv_at hl 1 rfl) ?_
      refine lv_iconst (v := 4) hx hb dX6_byteAt_19 (by decide) ?_
      refine lv_idiv hx hb dX6_byteAt_20 (by decide) ?_
      obtain ⟨hi_3, h⟩ := h
      refine va_iald hx hb hK hP 1 0 rfl rfl hi_3 dX6_byteAt_21 ?_
      refine lv_bipush (v := 24) hx hb dX6_byteAt_22 (by decide) ?_
      refine lv_bipush (v := 8) hx hb dX6_byteAt_24 (by decide) ?_
      refine lv_iload_n hx hb dX6_byteAt_26 rfl (lv_at hl 1 rfl) ?_
      refine lv_iconst (v := 4) hx hb dX6_byteAt_27 (by decide) ?_
      refine lv_irem hx hb dX6_byteAt_28 (by decide) ?_
      refine lv_imul hx hb dX6_byteAt_29 ?_
      refine lv_isub hx hb dX6_byteAt_30 ?_
      refine lv_iushr hx hb dX6_byteAt_31 rfl ?_
      refine lv_sipush (v := 255) hx hb dX6_byteAt_32 (by decide) ?_
      refine lv_iand hx hb dX6_byteAt_35 ?_
      rw [hQ]
      exact W.iret (v := ((((tp_words ((x1 / 4).toNatClampNeg)).toUInt32 >>> (((24 - (8 * (x1 - x1 / 4 * 4))) : Int32).toUInt32 &&& Int32.toUInt32 31)).toInt32) &&& 255)) hx hb hr (fun t ht hW => ⟨⟨((((tp_words ((x1 / 4).toNatClampNeg)).toUInt32 >>> (((24 - (8 * (x1 - x1 / 4 * 4))) : Int32).toUInt32 &&& Int32.toUInt32 31)).toInt32) &&& 255), (), rfl, h, by rw [ht]; exact hP, va_K.moved hW.alike hK, hD⟩, hS.F ht⟩) hS.2.2 dX6_byteAt_36
    · have h := h.2 c_2
      refine lv_iconst (v := (-1)) hx hb dX6_byteAt_12 (by decide) ?_
      rw [hQ]
      exact W.iret (v := (-1)) hx hb hr (fun t ht hW => ⟨⟨(-1), (), rfl, h, by rw [ht]; exact hP, va_K.moved hW.alike hK, hD⟩, hS.F ht⟩) hS.2.2 dX6_byteAt_13
def rm_X6_hasRoom : Room := { frames := 0, cells := 0, slots := 0, locals := 0 }
theorem mi_X6_hasRoom_X6 : ∀ w ∈ wsX60, w ∈ wsX6_hasRoom := fun _ h => List.mem_cons_of_mem _ (List.mem_append_right _ h)
set_option maxHeartbeats 4000000 in
set_option maxRecDepth 100000 in
theorem c_X6_hasRoom (l : Launch) (D : va_G) (cI cZ : ClassId) (E : (Nat → Nat) × (Nat → Nat)) (tp_h : Nat) (tp_ad : Nat → Nat) (tp_words : (Nat → Int32)) (tp_length : Int32)  (K : (Int32 → Prop)) (h : wp_X6_hasRoom tp_length  K) : mk_Ci l D cI cZ E yX6_hasRoom wsX6_hasRoom rm_X6_hasRoom ([.ref tp_h] : List Value) (wo_X6 cI cZ tp_h tp_ad tp_words tp_length) (fun (u : Unit) => (wo_X6 cI cZ tp_h tp_ad tp_words tp_length)) (fun (r : Int32) (u : Unit) => K r) := by
  intro sz
  refine Met.ofW (cc := cX6_hasRoom) (maxL := 1) (ret := (some .boolean)) (by decide) rfl ?_
  intro p e s m args below meth c s₁ B hml hv
  obtain ⟨rfl, hsz, hP, hK, hD0, hN, hE⟩ := hv
  have hx := B.exec
  have hb := B.bytes
  have hr := B.returns
  have hts := atoms_spec (ws := wsX6_hasRoom) B.pre
  have hown : s.vm.findClass RX6 = some m.cls := findClass_of_methodNamed B.named
  have hlocks := B.notSynchronized
  subst hsz
  have hD := hD0.self (sz := s.heap.size)
  generalize hAe : va_A (wo_X6 cI cZ tp_h tp_ad tp_words tp_length) s.heap.size = A at hD hE ⊢
  have hA : ∀ q : Nat, s.heap.size ≤ q → A q := fun q h => by rw [← hAe]; exact Or.inr h
  have hl := lv_entry ([.ref tp_h] : List Value) (n := 1) (Nat.le_of_ble_eq_true rfl)
  rw [lg_entry_eq]
  generalize (lg_sl ([.ref tp_h] : List Value) ++ List.replicate (1 - (lg_sl ([.ref tp_h] : List Value)).length) Slot.unset).toArray = ls at hl ⊢
  have hl : lv_has ls 1 [(0, .ref tp_h)] := hl
  refine mk_absQ (P := fun Q => W p l e _ s m _ below meth c s.heap [] 0 0 Q _) (fun Q hQ => ?_)
  refine mk_absH (P := fun H => W p l e _ s m _ below meth c H [] 0 0 Q _) (fun H hH => ?_)
  have hP : va_P D vwCl (wo_X6 cI cZ tp_h tp_ad tp_words tp_length) H := by rw [hH]; exact hP
  have hS : va_S A s.heap H [] := by rw [hH]; exact va_S.rf
  refine lv_aload_n hx hb dX6_hasRoom_0 rfl (lv_at hl 0 rfl) ?_
  refine va_get (D := D) (ci := 6) (v := .int tp_length) (C := RX6) (T := TX6) (N := 2) hx hb hts mi_X6_hasRoom_X6 hown hK hP 0 rfl rfl 1 (by decide) (hts (.fieldLink RX6 15 "HiringHall$Tape" "length" "I") (List.mem_of_getElem? (i := 1) rfl)) (fun _ h9 => h9) rfl dX6_hasRoom_1 ?_
  refine lv_bipush (v := 20) hx hb dX6_hasRoom_4 (by decide) ?_
  refine lv_iadd hx hb dX6_hasRoom_6 ?_
  refine lv_sipush (v := 800) hx hb dX6_hasRoom_7 (by decide) ?_
  refine lv_icmp_gt (tgt := 17) hx hb dX6_hasRoom_10 (by decide) (fun c_1 => ?_) (fun c_1 => ?_)
  · have h := h.1 c_1
    refine lv_iconst (v := 0) hx hb dX6_hasRoom_17 (by decide) ?_
    rw [hQ]
    exact W.zret (v := 0) hx hb hr rfl (fun t ht hW => ⟨⟨0, (), rfl, h, by rw [ht]; exact hP, va_K.moved hW.alike hK, hD⟩, hS.F ht⟩) hS.2.2 dX6_hasRoom_18
  · have h := h.2 c_1
    refine lv_iconst (v := 1) hx hb dX6_hasRoom_13 (by decide) ?_
    refine lv_goto (tgt := 18) hx hb dX6_hasRoom_14 (by decide) ?_
    rw [hQ]
    exact W.zret (v := 1) hx hb hr rfl (fun t ht hW => ⟨⟨1, (), rfl, h, by rw [ht]; exact hP, va_K.moved hW.alike hK, hD⟩, hS.F ht⟩) hS.2.2 dX6_hasRoom_18
def rm_X6_add : Room := { frames := 0, cells := 0, slots := 0, locals := 0 }
theorem mi_X6_add_X6 : ∀ w ∈ wsX60, w ∈ wsX6_add := fun _ h => List.mem_cons_of_mem _ (List.mem_append_right _ h)
set_option maxHeartbeats 4000000 in
set_option maxRecDepth 100000 in
theorem c_X6_add (l : Launch) (D : va_G) (cI cZ : ClassId) (E : (Nat → Nat) × (Nat → Nat)) (tp_h : Nat) (tp_ad : Nat → Nat) (tp_words : (Nat → Int32)) (tp_length : Int32) (x1 : Int32) (K : ((Nat → Int32) → Int32 → Prop)) (h : wp_X6_add tp_words tp_length x1 K) : mk_Cv l D cI cZ E yX6_add wsX6_add rm_X6_add ([.ref tp_h, .int x1] : List Value) (wo_X6 cI cZ tp_h tp_ad tp_words tp_length) (fun (u : (Nat → Int32) × Int32) => (wo_X6 cI cZ tp_h tp_ad u.1 u.2)) (fun (u : (Nat → Int32) × Int32) => K u.1 u.2) := by
  intro sz
  refine Met.ofW (cc := cX6_add) (maxL := 3) (ret := none) (by decide) rfl ?_
  intro p e s m args below meth c s₁ B hml hv
  obtain ⟨rfl, hsz, hP, hK, hD0, hN, hE⟩ := hv
  have hx := B.exec
  have hb := B.bytes
  have hr := B.returns
  have hts := atoms_spec (ws := wsX6_add) B.pre
  have hown : s.vm.findClass RX6 = some m.cls := findClass_of_methodNamed B.named
  have hlocks := B.notSynchronized
  subst hsz
  have hD := hD0.self (sz := s.heap.size)
  generalize hAe : va_A (wo_X6 cI cZ tp_h tp_ad tp_words tp_length) s.heap.size = A at hD hE ⊢
  have hA : ∀ q : Nat, s.heap.size ≤ q → A q := fun q h => by rw [← hAe]; exact Or.inr h
  have hl := lv_entry ([.ref tp_h, .int x1] : List Value) (n := 3) (Nat.le_of_ble_eq_true rfl)
  rw [lg_entry_eq]
  generalize (lg_sl ([.ref tp_h, .int x1] : List Value) ++ List.replicate (3 - (lg_sl ([.ref tp_h, .int x1] : List Value)).length) Slot.unset).toArray = ls at hl ⊢
  have hl : lv_has ls 3 [(0, .ref tp_h), (1, .int x1)] := hl
  refine mk_absQ (P := fun Q => W p l e _ s m _ below meth c s.heap [] 0 0 Q _) (fun Q hQ => ?_)
  refine mk_absH (P := fun H => W p l e _ s m _ below meth c H [] 0 0 Q _) (fun H hH => ?_)
  have hP : va_P D vwCl (wo_X6 cI cZ tp_h tp_ad tp_words tp_length) H := by rw [hH]; exact hP
  have hS : va_S A s.heap H [] := by rw [hH]; exact va_S.rf
  refine lv_aload_n hx hb dX6_add_0 rfl (lv_at hl 0 rfl) ?_
  refine va_get (D := D) (ci := 6) (v := .int tp_length) (C := RX6) (T := TX6) (N := 2) hx hb hts mi_X6_add_X6 hown hK hP 0 rfl rfl 1 (by decide) (hts (.fieldLink RX6 15 "HiringHall$Tape" "length" "I") (List.mem_of_getElem? (i := 1) rfl)) (fun _ h9 => h9) rfl dX6_add_1 ?_
  refine lv_iconst (v := 4) hx hb dX6_add_4 (by decide) ?_
  refine lv_idiv hx hb dX6_add_5 (by decide) ?_
  refine lv_topi (fun y1 e_y1 => ?_)
  have h := h y1 e_y1
  refine lv_istore_n (lv' := [(2, .int y1), (0, .ref tp_h), (1, .int x1)]) hx hb dX6_add_6 rfl hl (by decide) rfl (fun ls hl => ?_)
  refine lv_iload_n hx hb dX6_add_7 rfl (lv_at hl 0 rfl) ?_
  refine lv_aload_n hx hb dX6_add_8 rfl (lv_at hl 1 rfl) ?_
  refine va_get (D := D) (ci := 6) (v := .ref (tp_ad 0)) (C := RX6) (T := TX6) (N := 2) hx hb hts mi_X6_add_X6 hown hK hP 0 rfl rfl 0 (by decide) (hts (.fieldLink RX6 9 "HiringHall$Tape" "words" "[I") (List.mem_of_getElem? (i := 2) rfl)) (fun _ h9 => h9) rfl dX6_add_9 ?_
  refine va_alen (v := 200) hx hb hK hP 1 0 rfl (ty := .int) rfl rfl dX6_add_12 ?_
  refine lv_icmp_ge (tgt := 33) hx hb dX6_add_13 (by decide) (fun c_2 => ?_) (fun c_2 => ?_)
  · have h := h.1 c_2
    rw [hQ]
    exact W.vret hx hb hr (fun t ht hW => ⟨⟨(tp_words, tp_length), rfl, h, by rw [ht]; exact hP, va_K.moved hW.alike hK, hD⟩, hS.F ht⟩) hS.2.2 dX6_add_33
  · have h := h.2 c_2
    refine lv_aload_n hx hb dX6_add_16 rfl (lv_at hl 1 rfl) ?_
    refine va_get (D := D) (ci := 6) (v := .ref (tp_ad 0)) (C := RX6) (T := TX6) (N := 2) hx hb hts mi_X6_add_X6 hown hK hP 0 rfl rfl 0 (by decide) (hts (.fieldLink RX6 9 "HiringHall$Tape" "words" "[I") (List.mem_of_getElem? (i := 2) rfl)) (fun _ h9 => h9) rfl dX6_add_17 ?_
    refine lv_iload_n hx hb dX6_add_20 rfl (lv_at hl 0 rfl) ?_
    refine lv_iload_n hx hb dX6_add_21 rfl (lv_at hl 2 rfl) ?_
    obtain ⟨hi_3, h⟩ := h
    refine va_iast hx hb hK hP hD hS 1 0 rfl rfl hi_3 dX6_add_22 (fun H locs hP hD hS => ?_)
    have hP : va_P D vwCl (wo_X6 cI cZ tp_h tp_ad (upd tp_words (y1.toNatClampNeg) x1) tp_length) H := hP
    have hD : va_D A (wo_X6 cI cZ tp_h tp_ad (upd tp_words (y1.toNatClampNeg) x1) tp_length) := hD
    refine lv_aload_n hx hb dX6_add_23 rfl (lv_at hl 1 rfl) ?_
    refine lv_dup hx hb dX6_add_24 rfl ?_
    refine va_get (D := D) (ci := 6) (v := .int tp_length) (C := RX6) (T := TX6) (N := 2) hx hb hts mi_X6_add_X6 hown hK hP 0 rfl rfl 1 (by decide) (hts (.fieldLink RX6 15 "HiringHall$Tape" "length" "I") (List.mem_of_getElem? (i := 1) rfl)) (fun _ h9 => h9) rfl dX6_add_25 ?_
    refine lv_iconst (v := 4) hx hb dX6_add_28 (by decide) ?_
    refine lv_iadd hx hb dX6_add_29 ?_
    refine lv_topi (fun y4 e_y4 => ?_)
    have h := h y4 e_y4
    refine va_put (D := D) (ci := 6) (v := .int y4) (ty := .int) (C := RX6) (T := TX6) (N := 2) hx hb hts mi_X6_add_X6 tyX6 tyX6_ok nmX6 hown hK hP hD hS 0 rfl rfl 1 (by decide) (hts (.fieldLink RX6 15 "HiringHall$Tape" "length" "I") (List.mem_of_getElem? (i := 1) rfl)) (fun _ h9 => h9) rfl (by decide +kernel) rfl rfl (Nat.le_of_ble_eq_true rfl) dX6_add_30 (fun H locs hP hD hS => ?_)
    have hP : va_P D vwCl (wo_X6 cI cZ tp_h tp_ad (upd tp_words (y1.toNatClampNeg) x1) y4) H := hP
    have hD : va_D A (wo_X6 cI cZ tp_h tp_ad (upd tp_words (y1.toNatClampNeg) x1) y4) := hD
    rw [hQ]
    exact W.vret hx hb hr (fun t ht hW => ⟨⟨((upd tp_words (y1.toNatClampNeg) x1), y4), rfl, h, by rw [ht]; exact hP, va_K.moved hW.alike hK, hD⟩, hS.F ht⟩) hS.2.2 dX6_add_33
def rm_X6_clear : Room := { frames := 0, cells := 0, slots := 0, locals := 0 }
theorem mi_X6_clear_X6 : ∀ w ∈ wsX60, w ∈ wsX6_clear := fun _ h => List.mem_cons_of_mem _ (List.mem_append_right _ h)
set_option maxHeartbeats 4000000 in
set_option maxRecDepth 100000 in
theorem c_X6_clear (l : Launch) (D : va_G) (cI cZ : ClassId) (E : (Nat → Nat) × (Nat → Nat)) (tp_h : Nat) (tp_ad : Nat → Nat) (tp_words : (Nat → Int32)) (tp_length : Int32)  (K : (Int32 → Prop)) (h : wp_X6_clear tp_length  K) : mk_Cv l D cI cZ E yX6_clear wsX6_clear rm_X6_clear ([.ref tp_h] : List Value) (wo_X6 cI cZ tp_h tp_ad tp_words tp_length) (fun (u : Int32) => (wo_X6 cI cZ tp_h tp_ad tp_words u)) (fun (u : Int32) => K u) := by
  intro sz
  refine Met.ofW (cc := cX6_clear) (maxL := 1) (ret := none) (by decide) rfl ?_
  intro p e s m args below meth c s₁ B hml hv
  obtain ⟨rfl, hsz, hP, hK, hD0, hN, hE⟩ := hv
  have hx := B.exec
  have hb := B.bytes
  have hr := B.returns
  have hts := atoms_spec (ws := wsX6_clear) B.pre
  have hown : s.vm.findClass RX6 = some m.cls := findClass_of_methodNamed B.named
  have hlocks := B.notSynchronized
  subst hsz
  have hD := hD0.self (sz := s.heap.size)
  generalize hAe : va_A (wo_X6 cI cZ tp_h tp_ad tp_words tp_length) s.heap.size = A at hD hE ⊢
  have hA : ∀ q : Nat, s.heap.size ≤ q → A q := fun q h => by rw [← hAe]; exact Or.inr h
  have hl := lv_entry ([.ref tp_h] : List Value) (n := 1) (Nat.le_of_ble_eq_true rfl)
  rw [lg_entry_eq]
  generalize (lg_sl ([.ref tp_h] : List Value) ++ List.replicate (1 - (lg_sl ([.ref tp_h] : List Value)).length) Slot.unset).toArray = ls at hl ⊢
  have hl : lv_has ls 1 [(0, .ref tp_h)] := hl
  refine mk_absQ (P := fun Q => W p l e _ s m _ below meth c s.heap [] 0 0 Q _) (fun Q hQ => ?_)
  refine mk_absH (P := fun H => W p l e _ s m _ below meth c H [] 0 0 Q _) (fun H hH => ?_)
  have hP : va_P D vwCl (wo_X6 cI cZ tp_h tp_ad tp_words tp_length) H := by rw [hH]; exact hP
  have hS : va_S A s.heap H [] := by rw [hH]; exact va_S.rf
  refine lv_aload_n hx hb dX6_clear_0 rfl (lv_at hl 0 rfl) ?_
  refine lv_iconst (v := 0) hx hb dX6_clear_1 (by decide) ?_
  refine va_put (D := D) (ci := 6) (v := .int 0) (ty := .int) (C := RX6) (T := TX6) (N := 2) hx hb hts mi_X6_clear_X6 tyX6 tyX6_ok nmX6 hown hK hP hD hS 0 rfl rfl 1 (by decide) (hts (.fieldLink RX6 15 "HiringHall$Tape" "length" "I") (List.mem_of_getElem? (i := 1) rfl)) (fun _ h9 => h9) rfl (by decide +kernel) rfl rfl (Nat.le_of_ble_eq_true rfl) dX6_clear_2 (fun H locs hP hD hS => ?_)
  have hP : va_P D vwCl (wo_X6 cI cZ tp_h tp_ad tp_words 0) H := hP
  have hD : va_D A (wo_X6 cI cZ tp_h tp_ad tp_words 0) := hD
  rw [hQ]
  exact W.vret hx hb hr (fun t ht hW => ⟨⟨(0), rfl, h, by rw [ht]; exact hP, va_K.moved hW.alike hK, hD⟩, hS.F ht⟩) hS.2.2 dX6_clear_5
