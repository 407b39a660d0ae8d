def rm_X0_comesAhead : Room := { frames := 0, cells := 0, slots := 0, locals := 0 }
theorem mi_X0_comesAhead_X0 : ∀ w ∈ wsX00, w ∈ wsX0_comesAhead := fun _ h => List.mem_cons_of_mem _ (List.mem_append_right _ h)
set_option maxHeartbeats 4000000 in
set_option maxRecDepth 100000 in
theorem c_X0_comesAhead (l : Launch) (D : va_G) (cI cZ : ClassId) (E : (Nat → Nat) × (Nat → Nat)) (ca_h : Nat) (ca_ad : Nat → Nat) (ca_skill : (Nat → Int32)) (ca_days : (Nat → Int32)) (ca_wanted : (Nat → Int32)) (ca_named : (Nat → Int32)) (ca_minute : (Nat → Int32)) (ca_day : (Nat → Int32)) (ca_refusers : (Nat → Int32)) (ca_order : (Nat → Int32)) (ca_size : Int32) (x1 : Int32) (x2 : Int32) (K : (Int32 → Prop)) (h : wp_X0_comesAhead ca_minute ca_day x1 x2 K) : mk_Ci l D cI cZ E yX0_comesAhead wsX0_comesAhead rm_X0_comesAhead ([.ref ca_h, .int x1, .int x2] : List Value) (wo_X0 cI cZ ca_h ca_ad ca_skill ca_days ca_wanted ca_named ca_minute ca_day ca_refusers ca_order ca_size) (fun (u : Unit) => (wo_X0 cI cZ ca_h ca_ad ca_skill ca_days ca_wanted ca_named ca_minute ca_day ca_refusers ca_order ca_size)) (fun (r : Int32) (u : Unit) => K r) := by
  intro sz
  refine Met.ofW (cc := cX0_comesAhead) (maxL := 3) (ret := (some .boolean)) (by decide) rfl ?_
  intro p e s m args below meth c s₁ B hml hv
  obtain ⟨rfl, hsz, hP, hK, hD0, hN, hE⟩ := hv
  have hx := B.exec
  have hb := B.bytes
  have hr := B.returns
  have hts := atoms_spec (ws := wsX0_comesAhead) B.pre
  have hown : s.vm.findClass RX0 = some m.cls := findClass_of_methodNamed B.named
  have hlocks := B.notSynchronized
  subst hsz
  have hD := hD0.self (sz := s.heap.size)
  generalize hAe : va_A (wo_X0 cI cZ ca_h ca_ad ca_skill ca_days ca_wanted ca_named ca_minute ca_day ca_refusers ca_order ca_size) s.heap.size = A at hD hE ⊢
  have hA : ∀ q : Nat, s.heap.size ≤ q → A q := fun q h => by rw [← hAe]; exact Or.inr h
  have hl := lv_entry ([.ref ca_h, .int x1, .int x2] : List Value) (n := 3) (Nat.le_of_ble_eq_true rfl)
  rw [lg_entry_eq]
  generalize (lg_sl ([.ref ca_h, .int x1, .int x2] : List Value) ++ List.replicate (3 - (lg_sl ([.ref ca_h, .int x1, .int x2] : List Value)).length) Slot.unset).toArray = ls at hl ⊢
  have hl : lv_has ls 3 [(0, .ref ca_h), (1, .int x1), (2, .int x2)] := hl
  refine mk_absQ (P := fun Q => W p l e _ s m _ below meth c s.heap [] 0 0 Q _) (fun Q hQ => ?_)
  refine mk_absH (P := fun H => W p l e _ s m _ below meth c H [] 0 0 Q _) (fun H hH => ?_)
  have hP : va_P D vwCl (wo_X0 cI cZ ca_h ca_ad ca_skill ca_days ca_wanted ca_named ca_minute ca_day ca_refusers ca_order ca_size) H := by rw [hH]; exact hP
  have hS : va_S A s.heap H [] := by rw [hH]; exact va_S.rf
  refine lv_aload_n hx hb dX0_comesAhead_0 rfl (lv_at hl 0 rfl) ?_
  refine va_get (D := D) (ci := 0) (v := .ref (ca_ad 5)) (C := RX0) (T := TX0) (N := 9) hx hb hts mi_X0_comesAhead_X0 hown hK hP 0 rfl rfl 5 (by decide) (hts (.fieldLink RX0 27 "HiringHall$Calls" "day" "[I") (List.mem_of_getElem? (i := 1) rfl)) (fun _ h9 => h9) rfl dX0_comesAhead_1 ?_
  refine lv_iload_n hx hb dX0_comesAhead_4 rfl (lv_at hl 2 rfl) ?_
  obtain ⟨hi_1, h⟩ := h
  refine va_iald hx hb hK hP 6 0 rfl rfl hi_1 dX0_comesAhead_5 ?_
  refine lv_aload_n hx hb dX0_comesAhead_6 rfl (lv_at hl 0 rfl) ?_
  refine va_get (D := D) (ci := 0) (v := .ref (ca_ad 5)) (C := RX0) (T := TX0) (N := 9) hx hb hts mi_X0_comesAhead_X0 hown hK hP 0 rfl rfl 5 (by decide) (hts (.fieldLink RX0 27 "HiringHall$Calls" "day" "[I") (List.mem_of_getElem? (i := 1) rfl)) (fun _ h9 => h9) rfl dX0_comesAhead_7 ?_
  refine lv_iload_n hx hb dX0_comesAhead_10 rfl (lv_at hl 1 rfl) ?_
  obtain ⟨hi_2, h⟩ := h
  refine va_iald hx hb hK hP 6 0 rfl rfl hi_2 dX0_comesAhead_11 ?_
  refine lv_icmp_ne (tgt := 34) hx hb dX0_comesAhead_12 (by decide) (fun c_3 => ?_) (fun c_3 => ?_)
  · have h := h.1 c_3
    refine lv_iconst (v := 0) hx hb dX0_comesAhead_34 (by decide) ?_
    rw [hQ]
    exact W.zret (v := 0) hx hb hr rfl (fun t ht hW => ⟨⟨0, (), rfl, h, by rw [ht]; exact hP, va_K.moved hW.alike hK, hD⟩, hS.F ht⟩) hS.2.2 dX0_comesAhead_35
  · have h := h.2 c_3
    refine lv_aload_n hx hb dX0_comesAhead_15 rfl (lv_at hl 0 rfl) ?_
    refine va_get (D := D) (ci := 0) (v := .ref (ca_ad 4)) (C := RX0) (T := TX0) (N := 9) hx hb hts mi_X0_comesAhead_X0 hown hK hP 0 rfl rfl 4 (by decide) (hts (.fieldLink RX0 24 "HiringHall$Calls" "minute" "[I") (List.mem_of_getElem? (i := 2) rfl)) (fun _ h9 => h9) rfl dX0_comesAhead_16 ?_
    refine lv_iload_n hx hb dX0_comesAhead_19 rfl (lv_at hl 2 rfl) ?_
    obtain ⟨hi_4, h⟩ := h
    refine va_iald hx hb hK hP 5 0 rfl rfl hi_4 dX0_comesAhead_20 ?_
    refine lv_aload_n hx hb dX0_comesAhead_21 rfl (lv_at hl 0 rfl) ?_
    refine va_get (D := D) (ci := 0) (v := .ref (ca_ad 4)) (C := RX0) (T := TX0) (N := 9) hx hb hts mi_X0_comesAhead_X0 hown hK hP 0 rfl rfl 4 (by decide) (hts (.fieldLink RX0 24 "HiringHall$Calls" "minute" "[I") (List.mem_of_getElem? (i := 2) rfl)) (fun _ h9 => h9) rfl dX0_comesAhead_22 ?_
    refine lv_iload_n hx hb dX0_comesAhead_25 rfl (lv_at hl 1 rfl) ?_
    obtain ⟨hi_5, h⟩ := h
    refine va_iald hx hb hK hP 5 0 rfl rfl hi_5 dX0_comesAhead_26 ?_
    refine lv_icmp_le (tgt := 34) hx hb dX0_comesAhead_27 (by decide) (fun c_6 => ?_) (fun c_6 => ?_)
    · have h := h.1 c_6
      refine lv_iconst (v := 0) hx hb dX0_comesAhead_34 (by decide) ?_
      rw [hQ]
      exact W.zret (v := 0) hx hb hr rfl (fun t ht hW => ⟨⟨0, (), rfl, h, by rw [ht]; exact hP, va_K.moved hW.alike hK, hD⟩, hS.F ht⟩) hS.2.2 dX0_comesAhead_35
    · have h := h.2 c_6
      refine lv_iconst (v := 1) hx hb dX0_comesAhead_30 (by decide) ?_
      refine lv_goto (tgt := 35) hx hb dX0_comesAhead_31 (by decide) ?_
      rw [hQ]
      exact W.zret (v := 1) hx hb hr rfl (fun t ht hW => ⟨⟨1, (), rfl, h, by rw [ht]; exact hP, va_K.moved hW.alike hK, hD⟩, hS.F ht⟩) hS.2.2 dX0_comesAhead_35
def rm_X0_enterOrder : Room := { frames := 1, cells := 0, slots := 0, locals := 22 }
theorem mi_X0_enterOrder_X0 : ∀ w ∈ wsX00, w ∈ wsX0_enterOrder := fun _ h => List.mem_cons_of_mem _ (List.mem_append_right _ h)
set_option maxHeartbeats 4000000 in
set_option maxRecDepth 100000 in
theorem c_X0_enterOrder (l : Launch) (D : va_G) (cI cZ : ClassId) (E : (Nat → Nat) × (Nat → Nat)) (ca_h : Nat) (ca_ad : Nat → Nat) (ca_skill : (Nat → Int32)) (ca_days : (Nat → Int32)) (ca_wanted : (Nat → Int32)) (ca_named : (Nat → Int32)) (ca_minute : (Nat → Int32)) (ca_day : (Nat → Int32)) (ca_refusers : (Nat → Int32)) (ca_order : (Nat → Int32)) (ca_size : Int32) (x1 : Int32) (K : ((Nat → Int32) → Prop)) (h : wp_X0_enterOrder ca_minute ca_day ca_order x1 K) : mk_Cv l D cI cZ E yX0_enterOrder wsX0_enterOrder rm_X0_enterOrder ([.ref ca_h, .int x1] : List Value) (wo_X0 cI cZ ca_h ca_ad ca_skill ca_days ca_wanted ca_named ca_minute ca_day ca_refusers ca_order ca_size) (fun (u : (Nat → Int32)) => (wo_X0 cI cZ ca_h ca_ad ca_skill ca_days ca_wanted ca_named ca_minute ca_day ca_refusers u ca_size)) (fun (u : (Nat → Int32)) => K u) := by
  intro sz
  refine Met.ofW (cc := cX0_enterOrder) (maxL := 3) (ret := none) (by decide) rfl ?_
  intro p e s m args below meth c s₁ B hml hv
  obtain ⟨rfl, hsz, hP, hK, hD0, hN, hE⟩ := hv
  have hx := B.exec
  have hb := B.bytes
  have hr := B.returns
  have hts := atoms_spec (ws := wsX0_enterOrder) B.pre
  have hown : s.vm.findClass RX0 = some m.cls := findClass_of_methodNamed B.named
  have hlocks := B.notSynchronized
  subst hsz
  have hD := hD0.self (sz := s.heap.size)
  generalize hAe : va_A (wo_X0 cI cZ ca_h ca_ad ca_skill ca_days ca_wanted ca_named ca_minute ca_day ca_refusers ca_order ca_size) s.heap.size = A at hD hE ⊢
  have hA : ∀ q : Nat, s.heap.size ≤ q → A q := fun q h => by rw [← hAe]; exact Or.inr h
  have hl := lv_entry ([.ref ca_h, .int x1] : List Value) (n := 3) (Nat.le_of_ble_eq_true rfl)
  rw [lg_entry_eq]
  generalize (lg_sl ([.ref ca_h, .int x1] : List Value) ++ List.replicate (3 - (lg_sl ([.ref ca_h, .int x1] : List Value)).length) Slot.unset).toArray = ls at hl ⊢
  have hl : lv_has ls 3 [(0, .ref ca_h), (1, .int x1)] := hl
  refine mk_absQ (P := fun Q => W p l e _ s m _ below meth c s.heap [] 0 0 Q _) (fun Q hQ => ?_)
  refine mk_absH (P := fun H => W p l e _ s m _ below meth c H [] 0 0 Q _) (fun H hH => ?_)
  have hP : va_P D vwCl (wo_X0 cI cZ ca_h ca_ad ca_skill ca_days ca_wanted ca_named ca_minute ca_day ca_refusers ca_order ca_size) H := by rw [hH]; exact hP
  have hS : va_S A s.heap H [] := by rw [hH]; exact va_S.rf
  have b2 : ∀ (n : Nat), ∀ (ca_order : (Nat → Int32)) (x2 : Int32), wp_X0_enterOrder_b2 K ca_minute ca_day x1 n ca_order x2 → ∀ (H : Heap) (locs : List Loc) (ls : Array Slot), va_P D vwCl (wo_X0 cI cZ ca_h ca_ad ca_skill ca_days ca_wanted ca_named ca_minute ca_day ca_refusers ca_order ca_size) H → va_D A (wo_X0 cI cZ ca_h ca_ad ca_skill ca_days ca_wanted ca_named ca_minute ca_day ca_refusers ca_order ca_size) → va_S A s.heap H locs → lv_has ls 3 [(0, .ref ca_h), (1, .int x1), (2, .int x2)] → W p l e (headSpec wsX0_enterOrder rm_X0_enterOrder).room s m ([.ref ca_h, .int x1] : List Value).toArray below meth c H locs 0 0 Q (F0 m 2 ls []) := by
    intro n
    induction n with
    | zero => intro ca_order x2 h; exact False.elim h
    | succ n ih =>
      intro ca_order x2 h H locs ls hP hD hS hl
      refine lv_iload_n hx hb dX0_enterOrder_2 rfl (lv_at hl 2 rfl) ?_
      refine lv_if_le (tgt := 42) hx hb dX0_enterOrder_3 (by decide) (fun c_1 => ?_) (fun c_1 => ?_)
      · have h := h.1 c_1
        refine lv_aload_n hx hb dX0_enterOrder_42 rfl (lv_at hl 0 rfl) ?_
        refine va_get (D := D) (ci := 0) (v := .ref (ca_ad 7)) (C := RX0) (T := TX0) (N := 9) hx hb hts mi_X0_enterOrder_X0 hown hK hP 0 rfl rfl 7 (by decide) (hts (.fieldLink RX0 33 "HiringHall$Calls" "order" "[I") (List.mem_of_getElem? (i := 1) rfl)) (fun _ h9 => h9) rfl dX0_enterOrder_43 ?_
        refine lv_iload_n hx hb dX0_enterOrder_46 rfl (lv_at hl 2 rfl) ?_
        refine lv_iload_n hx hb dX0_enterOrder_47 rfl (lv_at hl 1 rfl) ?_
        obtain ⟨hi_2, h⟩ := h
        refine va_iast hx hb hK hP hD hS 8 0 rfl rfl hi_2 dX0_enterOrder_48 (fun H locs hP hD hS => ?_)
        have hP : va_P D vwCl (wo_X0 cI cZ ca_h ca_ad ca_skill ca_days ca_wanted ca_named ca_minute ca_day ca_refusers (upd ca_order (x2.toNatClampNeg) x1) ca_size) H := hP
        have hD : va_D A (wo_X0 cI cZ ca_h ca_ad ca_skill ca_days ca_wanted ca_named ca_minute ca_day ca_refusers (upd ca_order (x2.toNatClampNeg) x1) ca_size) := hD
        rw [hQ]
        exact W.vret hx hb hr (fun t ht hW => ⟨⟨((upd ca_order (x2.toNatClampNeg) x1)), rfl, h, by rw [ht]; exact hP, va_K.moved hW.alike hK, hD⟩, hS.F ht⟩) hS.2.2 dX0_enterOrder_49
      · have h := h.2 c_1
        refine lv_aload_n hx hb dX0_enterOrder_6 rfl (lv_at hl 0 rfl) ?_
        refine lv_iload_n hx hb dX0_enterOrder_7 rfl (lv_at hl 1 rfl) ?_
        refine lv_aload_n hx hb dX0_enterOrder_8 rfl (lv_at hl 0 rfl) ?_
        refine va_get (D := D) (ci := 0) (v := .ref (ca_ad 7)) (C := RX0) (T := TX0) (N := 9) hx hb hts mi_X0_enterOrder_X0 hown hK hP 0 rfl rfl 7 (by decide) (hts (.fieldLink RX0 33 "HiringHall$Calls" "order" "[I") (List.mem_of_getElem? (i := 1) rfl)) (fun _ h9 => h9) rfl dX0_enterOrder_9 ?_
        refine lv_iload_n hx hb dX0_enterOrder_12 rfl (lv_at hl 2 rfl) ?_
        refine lv_iconst (v := 1) hx hb dX0_enterOrder_13 (by decide) ?_
        refine lv_isub hx hb dX0_enterOrder_14 ?_
        obtain ⟨hi_3, h⟩ := h
        refine va_iald hx hb hK hP 8 0 rfl rfl hi_3 dX0_enterOrder_15 ?_
        have hP : va_P D vwCl ((fun v => v) (wo_X0 cI cZ ca_h ca_ad ca_skill ca_days ca_wanted ca_named ca_minute ca_day ca_refusers ca_order ca_size)) H := hP
        have hD : va_D A ((fun v => v) (wo_X0 cI cZ ca_h ca_ad ca_skill ca_days ca_wanted ca_named ca_minute ca_day ca_refusers ca_order ca_size)) := hD
        refine mk_ci (f := fun v => v) mk_fr_id (va_runV (As := [.int x1, .int (ca_order ((x2 - 1).toNatClampNeg))]) (rest := []) ⟨hx, hb, hml, hown, hts⟩ (c_X0_comesAhead l D cI cZ E ca_h ca_ad ca_skill ca_days ca_wanted ca_named ca_minute ca_day ca_refusers ca_order ca_size x1 (ca_order ((x2 - 1).toNatClampNeg)) _ h H.size) (cwV 2 hts gX0_enterOrder_X0_comesAhead rfl rfl rfl (by decide +kernel) ⟨Nat.le_of_ble_eq_true rfl, Nat.le_of_ble_eq_true rfl⟩) (mk_preV (ci := 0) mk_fr_id hK hN hE hS hA hP hD rfl rfl) rfl rfl hl.1 rfl (lv_room (Nat.le_of_ble_eq_true rfl)) dX0_enterOrder_16 ⟨Nat.le_of_ble_eq_true rfl, Nat.le_of_ble_eq_true rfl⟩) hP hD hS hA (fun r4 u H locs h hP hD hS => ?_)
        try dsimp only at h
        have hP : va_P D vwCl (wo_X0 cI cZ ca_h ca_ad ca_skill ca_days ca_wanted ca_named ca_minute ca_day ca_refusers ca_order ca_size) H := hP
        have hD : va_D A (wo_X0 cI cZ ca_h ca_ad ca_skill ca_days ca_wanted ca_named ca_minute ca_day ca_refusers ca_order ca_size) := hD
        refine lv_if_eq (tgt := 42) hx hb dX0_enterOrder_19 (by decide) (fun c_5 => ?_) (fun c_5 => ?_)
        · have h := h.1 c_5
          refine lv_aload_n hx hb dX0_enterOrder_42 rfl (lv_at hl 0 rfl) ?_
          refine va_get (D := D) (ci := 0) (v := .ref (ca_ad 7)) (C := RX0) (T := TX0) (N := 9) hx hb hts mi_X0_enterOrder_X0 hown hK hP 0 rfl rfl 7 (by decide) (hts (.fieldLink RX0 33 "HiringHall$Calls" "order" "[I") (List.mem_of_getElem? (i := 1) rfl)) (fun _ h9 => h9) rfl dX0_enterOrder_43 ?_
          refine lv_iload_n hx hb dX0_enterOrder_46 rfl (lv_at hl 2 rfl) ?_
          refine lv_iload_n hx hb dX0_enterOrder_47 rfl (lv_at hl 1 rfl) ?_
          obtain ⟨hi_6, h⟩ := h
          refine va_iast hx hb hK hP hD hS 8 0 rfl rfl hi_6 dX0_enterOrder_48 (fun H locs hP hD hS => ?_)
          have hP : va_P D vwCl (wo_X0 cI cZ ca_h ca_ad ca_skill ca_days ca_wanted ca_named ca_minute ca_day ca_refusers (upd ca_order (x2.toNatClampNeg) x1) ca_size) H := hP
          have hD : va_D A (wo_X0 cI cZ ca_h ca_ad ca_skill ca_days ca_wanted ca_named ca_minute ca_day ca_refusers (upd ca_order (x2.toNatClampNeg) x1) ca_size) := hD
          rw [hQ]
          exact W.vret hx hb hr (fun t ht hW => ⟨⟨((upd ca_order (x2.toNatClampNeg) x1)), rfl, h, by rw [ht]; exact hP, va_K.moved hW.alike hK, hD⟩, hS.F ht⟩) hS.2.2 dX0_enterOrder_49
        · have h := h.2 c_5
          refine lv_aload_n hx hb dX0_enterOrder_22 rfl (lv_at hl 0 rfl) ?_
          refine va_get (D := D) (ci := 0) (v := .ref (ca_ad 7)) (C := RX0) (T := TX0) (N := 9) hx hb hts mi_X0_enterOrder_X0 hown hK hP 0 rfl rfl 7 (by decide) (hts (.fieldLink RX0 33 "HiringHall$Calls" "order" "[I") (List.mem_of_getElem? (i := 1) rfl)) (fun _ h9 => h9) rfl dX0_enterOrder_23 ?_
          refine lv_iload_n hx hb dX0_enterOrder_26 rfl (lv_at hl 2 rfl) ?_
          refine lv_aload_n hx hb dX0_enterOrder_27 rfl (lv_at hl 0 rfl) ?_
          refine va_get (D := D) (ci := 0) (v := .ref (ca_ad 7)) (C := RX0) (T := TX0) (N := 9) hx hb hts mi_X0_enterOrder_X0 hown hK hP 0 rfl rfl 7 (by decide) (hts (.fieldLink RX0 33 "HiringHall$Calls" "order" "[I") (List.mem_of_getElem? (i := 1) rfl)) (fun _ h9 => h9) rfl dX0_enterOrder_28 ?_
          refine lv_iload_n hx hb dX0_enterOrder_31 rfl (lv_at hl 2 rfl) ?_
          refine lv_iconst (v := 1) hx hb dX0_enterOrder_32 (by decide) ?_
          refine lv_isub hx hb dX0_enterOrder_33 ?_
          obtain ⟨hi_7, h⟩ := h
          refine va_iald hx hb hK hP 8 0 rfl rfl hi_7 dX0_enterOrder_34 ?_
          refine lv_topi (fun y8 e_y8 => ?_)
          have h := h y8 e_y8
          obtain ⟨hi_9, h⟩ := h
          refine va_iast hx hb hK hP hD hS 8 0 rfl rfl hi_9 dX0_enterOrder_35 (fun H locs hP hD hS => ?_)
          have hP : va_P D vwCl (wo_X0 cI cZ ca_h ca_ad ca_skill ca_days ca_wanted ca_named ca_minute ca_day ca_refusers (upd ca_order (x2.toNatClampNeg) y8) ca_size) H := hP
          have hD : va_D A (wo_X0 cI cZ ca_h ca_ad ca_skill ca_days ca_wanted ca_named ca_minute ca_day ca_refusers (upd ca_order (x2.toNatClampNeg) y8) ca_size) := hD
          obtain ⟨y10, e_y10⟩ : ∃ y : Int32, y = x2 + (-1) := ⟨_, rfl⟩
          have h := h y10 e_y10
          refine lv_iinc (v := y10) (lv' := [(2, .int y10), (0, .ref ca_h), (1, .int x1)]) hx hb dX0_enterOrder_36 hl (k := 2) rfl (by rw [e_y10]; rfl) (by decide) rfl (fun ls hl => ?_)
          refine lv_goto (tgt := 2) hx hb dX0_enterOrder_39 (by decide) ?_
          exact ih (upd ca_order (x2.toNatClampNeg) y8) y10 h _ _ _ hP hD hS (lv_sub hl [1, 2, 0] rfl)
  refine lv_iload_n hx hb dX0_enterOrder_0 rfl (lv_at hl 1 rfl) ?_
  refine lv_istore_n (lv' := [(2, .int x1), (0, .ref ca_h), (1, .int x1)]) hx hb dX0_enterOrder_1 rfl hl (by decide) rfl (fun ls hl => ?_)
  obtain ⟨n, h⟩ := h
  exact b2  n ca_order x1 h _ _ _ hP hD hS (lv_sub hl [1, 2, 0] rfl)
def rm_X0_add : Room := { frames := 2, cells := 0, slots := 0, locals := 44 }
theorem mi_X0_add_X0 : ∀ w ∈ wsX00, w ∈ wsX0_add := fun _ h => List.mem_cons_of_mem _ (List.mem_append_right _ h)
set_option maxHeartbeats 4000000 in
set_option maxRecDepth 100000 in
theorem c_X0_add (l : Launch) (D : va_G) (cI cZ : ClassId) (E : (Nat → Nat) × (Nat → Nat)) (ca_h : Nat) (ca_ad : Nat → Nat) (ca_skill : (Nat → Int32)) (ca_days : (Nat → Int32)) (ca_wanted : (Nat → Int32)) (ca_named : (Nat → Int32)) (ca_minute : (Nat → Int32)) (ca_day : (Nat → Int32)) (ca_refusers : (Nat → Int32)) (ca_order : (Nat → Int32)) (ca_size : Int32) (x1 : Int32) (x2 : Int32) (x3 : Int32) (x4 : Int32) (x5 : Int32) (x6 : Int32) (K : (Int32 → (Nat → Int32) → (Nat → Int32) → (Nat → Int32) → (Nat → Int32) → (Nat → Int32) → (Nat → Int32) → (Nat → Int32) → Int32 → Prop)) (h : wp_X0_add ca_skill ca_days ca_wanted ca_named ca_minute ca_day ca_order ca_size x1 x2 x3 x4 x5 x6 K) : mk_Ci l D cI cZ E yX0_add wsX0_add rm_X0_add ([.ref ca_h, .int x1, .int x2, .int x3, .int x4, .int x5, .int x6] : List Value) (wo_X0 cI cZ ca_h ca_ad ca_skill ca_days ca_wanted ca_named ca_minute ca_day ca_refusers ca_order ca_size) (fun (u : (Nat → Int32) × (Nat → Int32) × (Nat → Int32) × (Nat → Int32) × (Nat → Int32) × (Nat → Int32) × (Nat → Int32) × Int32) => (wo_X0 cI cZ ca_h ca_ad u.1 u.2.1 u.2.2.1 u.2.2.2.1 u.2.2.2.2.1 u.2.2.2.2.2.1 ca_refusers u.2.2.2.2.2.2.1 u.2.2.2.2.2.2.2)) (fun (r : Int32) (u : (Nat → Int32) × (Nat → Int32) × (Nat → Int32) × (Nat → Int32) × (Nat → Int32) × (Nat → Int32) × (Nat → Int32) × Int32) => K r u.1 u.2.1 u.2.2.1 u.2.2.2.1 u.2.2.2.2.1 u.2.2.2.2.2.1 u.2.2.2.2.2.2.1 u.2.2.2.2.2.2.2) := by
  intro sz
  refine Met.ofW (cc := cX0_add) (maxL := 8) (ret := (some .int)) (by decide) rfl ?_
  intro p e s m args below meth c s₁ B hml hv
  obtain ⟨rfl, hsz, hP, hK, hD0, hN, hE⟩ := hv
  have hx := B.exec
  have hb := B.bytes
  have hr := B.returns
  have hts := atoms_spec (ws := wsX0_add) B.pre
  have hown : s.vm.findClass RX0 = some m.cls := findClass_of_methodNamed B.named
  have hlocks := B.notSynchronized
  subst hsz
  have hD := hD0.self (sz := s.heap.size)
  generalize hAe : va_A (wo_X0 cI cZ ca_h ca_ad ca_skill ca_days ca_wanted ca_named ca_minute ca_day ca_refusers ca_order ca_size) s.heap.size = A at hD hE ⊢
  have hA : ∀ q : Nat, s.heap.size ≤ q → A q := fun q h => by rw [← hAe]; exact Or.inr h
  have hl := lv_entry ([.ref ca_h, .int x1, .int x2, .int x3, .int x4, .int x5, .int x6] : List Value) (n := 8) (Nat.le_of_ble_eq_true rfl)
  rw [lg_entry_eq]
  generalize (lg_sl ([.ref ca_h, .int x1, .int x2, .int x3, .int x4, .int x5, .int x6] : List Value) ++ List.replicate (8 - (lg_sl ([.ref ca_h, .int x1, .int x2, .int x3, .int x4, .int x5, .int x6] : List Value)).length) Slot.unset).toArray = ls at hl ⊢
  have hl : lv_has ls 8 [(0, .ref ca_h), (1, .int x1), (2, .int x2), (3, .int x3), (4, .int x4), (5, .int x5), (6, .int x6)] := hl
  refine mk_absQ (P := fun Q => W p l e _ s m _ below meth c s.heap [] 0 0 Q _) (fun Q hQ => ?_)
  refine mk_absH (P := fun H => W p l e _ s m _ below meth c H [] 0 0 Q _) (fun H hH => ?_)
  have hP : va_P D vwCl (wo_X0 cI cZ ca_h ca_ad ca_skill ca_days ca_wanted ca_named ca_minute ca_day ca_refusers ca_order ca_size) H := by rw [hH]; exact hP
  have hS : va_S A s.heap H [] := by rw [hH]; exact va_S.rf
  refine lv_aload_n hx hb dX0_add_0 rfl (lv_at hl 0 rfl) ?_
  refine va_get (D := D) (ci := 0) (v := .int ca_size) (C := RX0) (T := TX0) (N := 9) hx hb hts mi_X0_add_X0 hown hK hP 0 rfl rfl 8 (by decide) (hts (.fieldLink RX0 36 "HiringHall$Calls" "size" "I") (List.mem_of_getElem? (i := 1) rfl)) (fun _ h9 => h9) rfl dX0_add_1 ?_
  refine lv_istore (lv' := [(7, .int ca_size), (0, .ref ca_h), (1, .int x1), (2, .int x2), (3, .int x3), (4, .int x4), (5, .int x5), (6, .int x6)]) hx hb dX0_add_4 hl (by decide) rfl (fun ls hl => ?_)
  refine lv_aload_n hx hb dX0_add_6 rfl (lv_at hl 1 rfl) ?_
  refine va_get (D := D) (ci := 0) (v := .ref (ca_ad 0)) (C := RX0) (T := TX0) (N := 9) hx hb hts mi_X0_add_X0 hown hK hP 0 rfl rfl 0 (by decide) (hts (.fieldLink RX0 9 "HiringHall$Calls" "skill" "[I") (List.mem_of_getElem? (i := 2) rfl)) (fun _ h9 => h9) rfl dX0_add_7 ?_
  refine lv_iload hx hb dX0_add_10 (lv_at hl 0 rfl) ?_
  refine lv_iload_n hx hb dX0_add_12 rfl (lv_at hl 2 rfl) ?_
  obtain ⟨hi_1, h⟩ := h
  refine va_iast hx hb hK hP hD hS 1 0 rfl rfl hi_1 dX0_add_13 (fun H locs hP hD hS => ?_)
  have hP : va_P D vwCl (wo_X0 cI cZ ca_h ca_ad (upd ca_skill (ca_size.toNatClampNeg) x1) ca_days ca_wanted ca_named ca_minute ca_day ca_refusers ca_order ca_size) H := hP
  have hD : va_D A (wo_X0 cI cZ ca_h ca_ad (upd ca_skill (ca_size.toNatClampNeg) x1) ca_days ca_wanted ca_named ca_minute ca_day ca_refusers ca_order ca_size) := hD
  refine lv_aload_n hx hb dX0_add_14 rfl (lv_at hl 1 rfl) ?_
  refine va_get (D := D) (ci := 0) (v := .ref (ca_ad 1)) (C := RX0) (T := TX0) (N := 9) hx hb hts mi_X0_add_X0 hown hK hP 0 rfl rfl 1 (by decide) (hts (.fieldLink RX0 15 "HiringHall$Calls" "days" "[I") (List.mem_of_getElem? (i := 3) rfl)) (fun _ h9 => h9) rfl dX0_add_15 ?_
  refine lv_iload hx hb dX0_add_18 (lv_at hl 0 rfl) ?_
  refine lv_iload_n hx hb dX0_add_20 rfl (lv_at hl 3 rfl) ?_
  obtain ⟨hi_2, h⟩ := h
  refine va_iast hx hb hK hP hD hS 2 0 rfl rfl hi_2 dX0_add_21 (fun H locs hP hD hS => ?_)
  have hP : va_P D vwCl (wo_X0 cI cZ ca_h ca_ad (upd ca_skill (ca_size.toNatClampNeg) x1) (upd ca_days (ca_size.toNatClampNeg) x2) ca_wanted ca_named ca_minute ca_day ca_refusers ca_order ca_size) H := hP
  have hD : va_D A (wo_X0 cI cZ ca_h ca_ad (upd ca_skill (ca_size.toNatClampNeg) x1) (upd ca_days (ca_size.toNatClampNeg) x2) ca_wanted ca_named ca_minute ca_day ca_refusers ca_order ca_size) := hD
  refine lv_aload_n hx hb dX0_add_22 rfl (lv_at hl 1 rfl) ?_
  refine va_get (D := D) (ci := 0) (v := .ref (ca_ad 2)) (C := RX0) (T := TX0) (N := 9) hx hb hts mi_X0_add_X0 hown hK hP 0 rfl rfl 2 (by decide) (hts (.fieldLink RX0 18 "HiringHall$Calls" "wanted" "[I") (List.mem_of_getElem? (i := 4) rfl)) (fun _ h9 => h9) rfl dX0_add_23 ?_
  refine lv_iload hx hb dX0_add_26 (lv_at hl 0 rfl) ?_
  refine lv_iload_n hx hb dX0_add_28 rfl (lv_at hl 4 rfl) ?_
  obtain ⟨hi_3, h⟩ := h
  refine va_iast hx hb hK hP hD hS 3 0 rfl rfl hi_3 dX0_add_29 (fun H locs hP hD hS => ?_)
  have hP : va_P D vwCl (wo_X0 cI cZ ca_h ca_ad (upd ca_skill (ca_size.toNatClampNeg) x1) (upd ca_days (ca_size.toNatClampNeg) x2) (upd ca_wanted (ca_size.toNatClampNeg) x3) ca_named ca_minute ca_day ca_refusers ca_order ca_size) H := hP
  have hD : va_D A (wo_X0 cI cZ ca_h ca_ad (upd ca_skill (ca_size.toNatClampNeg) x1) (upd ca_days (ca_size.toNatClampNeg) x2) (upd ca_wanted (ca_size.toNatClampNeg) x3) ca_named ca_minute ca_day ca_refusers ca_order ca_size) := hD
  refine lv_aload_n hx hb dX0_add_30 rfl (lv_at hl 1 rfl) ?_
  refine va_get (D := D) (ci := 0) (v := .ref (ca_ad 3)) (C := RX0) (T := TX0) (N := 9) hx hb hts mi_X0_add_X0 hown hK hP 0 rfl rfl 3 (by decide) (hts (.fieldLink RX0 21 "HiringHall$Calls" "named" "[I") (List.mem_of_getElem? (i := 5) rfl)) (fun _ h9 => h9) rfl dX0_add_31 ?_
  refine lv_iload hx hb dX0_add_34 (lv_at hl 0 rfl) ?_
  refine lv_iload hx hb dX0_add_36 (lv_at hl 5 rfl) ?_
  obtain ⟨hi_4, h⟩ := h
  refine va_iast hx hb hK hP hD hS 4 0 rfl rfl hi_4 dX0_add_38 (fun H locs hP hD hS => ?_)
  have hP : va_P D vwCl (wo_X0 cI cZ ca_h ca_ad (upd ca_skill (ca_size.toNatClampNeg) x1) (upd ca_days (ca_size.toNatClampNeg) x2) (upd ca_wanted (ca_size.toNatClampNeg) x3) (upd ca_named (ca_size.toNatClampNeg) x4) ca_minute ca_day ca_refusers ca_order ca_size) H := hP
  have hD : va_D A (wo_X0 cI cZ ca_h ca_ad (upd ca_skill (ca_size.toNatClampNeg) x1) (upd ca_days (ca_size.toNatClampNeg) x2) (upd ca_wanted (ca_size.toNatClampNeg) x3) (upd ca_named (ca_size.toNatClampNeg) x4) ca_minute ca_day ca_refusers ca_order ca_size) := hD
  refine lv_aload_n hx hb dX0_add_39 rfl (lv_at hl 1 rfl) ?_
  refine va_get (D := D) (ci := 0) (v := .ref (ca_ad 4)) (C := RX0) (T := TX0) (N := 9) hx hb hts mi_X0_add_X0 hown hK hP 0 rfl rfl 4 (by decide) (hts (.fieldLink RX0 24 "HiringHall$Calls" "minute" "[I") (List.mem_of_getElem? (i := 6) rfl)) (fun _ h9 => h9) rfl dX0_add_40 ?_
  refine lv_iload hx hb dX0_add_43 (lv_at hl 0 rfl) ?_
  refine lv_iload hx hb dX0_add_45 (lv_at hl 6 rfl) ?_
  obtain ⟨hi_5, h⟩ := h
  refine va_iast hx hb hK hP hD hS 5 0 rfl rfl hi_5 dX0_add_47 (fun H locs hP hD hS => ?_)
  have hP : va_P D vwCl (wo_X0 cI cZ ca_h ca_ad (upd ca_skill (ca_size.toNatClampNeg) x1) (upd ca_days (ca_size.toNatClampNeg) x2) (upd ca_wanted (ca_size.toNatClampNeg) x3) (upd ca_named (ca_size.toNatClampNeg) x4) (upd ca_minute (ca_size.toNatClampNeg) x5) ca_day ca_refusers ca_order ca_size) H := hP
  have hD : va_D A (wo_X0 cI cZ ca_h ca_ad (upd ca_skill (ca_size.toNatClampNeg) x1) (upd ca_days (ca_size.toNatClampNeg) x2) (upd ca_wanted (ca_size.toNatClampNeg) x3) (upd ca_named (ca_size.toNatClampNeg) x4) (upd ca_minute (ca_size.toNatClampNeg) x5) ca_day ca_refusers ca_order ca_size) := hD
  refine lv_aload_n hx hb dX0_add_48 rfl (lv_at hl 1 rfl) ?_
  refine va_get (D := D) (ci := 0) (v := .ref (ca_ad 5)) (C := RX0) (T := TX0) (N := 9) hx hb hts mi_X0_add_X0 hown hK hP 0 rfl rfl 5 (by decide) (hts (.fieldLink RX0 27 "HiringHall$Calls" "day" "[I") (List.mem_of_getElem? (i := 7) rfl)) (fun _ h9 => h9) rfl dX0_add_49 ?_
  refine lv_iload hx hb dX0_add_52 (lv_at hl 0 rfl) ?_
  refine lv_iload hx hb dX0_add_54 (lv_at hl 7 rfl) ?_
  obtain ⟨hi_6, h⟩ := h
  refine va_iast hx hb hK hP hD hS 6 0 rfl rfl hi_6 dX0_add_56 (fun H locs hP hD hS => ?_)
  have hP : va_P D vwCl (wo_X0 cI cZ ca_h ca_ad (upd ca_skill (ca_size.toNatClampNeg) x1) (upd ca_days (ca_size.toNatClampNeg) x2) (upd ca_wanted (ca_size.toNatClampNeg) x3) (upd ca_named (ca_size.toNatClampNeg) x4) (upd ca_minute (ca_size.toNatClampNeg) x5) (upd ca_day (ca_size.toNatClampNeg) x6) ca_refusers ca_order ca_size) H := hP
  have hD : va_D A (wo_X0 cI cZ ca_h ca_ad (upd ca_skill (ca_size.toNatClampNeg) x1) (upd ca_days (ca_size.toNatClampNeg) x2) (upd ca_wanted (ca_size.toNatClampNeg) x3) (upd ca_named (ca_size.toNatClampNeg) x4) (upd ca_minute (ca_size.toNatClampNeg) x5) (upd ca_day (ca_size.toNatClampNeg) x6) ca_refusers ca_order ca_size) := hD
  refine lv_aload_n hx hb dX0_add_57 rfl (lv_at hl 1 rfl) ?_
  refine lv_iload hx hb dX0_add_58 (lv_at hl 0 rfl) ?_
  have hP : va_P D vwCl ((fun v => v) (wo_X0 cI cZ ca_h ca_ad (upd ca_skill (ca_size.toNatClampNeg) x1) (upd ca_days (ca_size.toNatClampNeg) x2) (upd ca_wanted (ca_size.toNatClampNeg) x3) (upd ca_named (ca_size.toNatClampNeg) x4) (upd ca_minute (ca_size.toNatClampNeg) x5) (upd ca_day (ca_size.toNatClampNeg) x6) ca_refusers ca_order ca_size)) H := hP
  have hD : va_D A ((fun v => v) (wo_X0 cI cZ ca_h ca_ad (upd ca_skill (ca_size.toNatClampNeg) x1) (upd ca_days (ca_size.toNatClampNeg) x2) (upd ca_wanted (ca_size.toNatClampNeg) x3) (upd ca_named (ca_size.toNatClampNeg) x4) (upd ca_minute (ca_size.toNatClampNeg) x5) (upd ca_day (ca_size.toNatClampNeg) x6) ca_refusers ca_order ca_size)) := hD
  refine mk_cv (f := fun v => v) mk_fr_id (va_runV (As := [.int ca_size]) (rest := []) ⟨hx, hb, hml, hown, hts⟩ (c_X0_enterOrder l D cI cZ E ca_h ca_ad (upd ca_skill (ca_size.toNatClampNeg) x1) (upd ca_days (ca_size.toNatClampNeg) x2) (upd ca_wanted (ca_size.toNatClampNeg) x3) (upd ca_named (ca_size.toNatClampNeg) x4) (upd ca_minute (ca_size.toNatClampNeg) x5) (upd ca_day (ca_size.toNatClampNeg) x6) ca_refusers ca_order ca_size ca_size _ h H.size) (cwV 1 hts gX0_add_X0_enterOrder rfl rfl rfl (by decide +kernel) ⟨Nat.le_of_ble_eq_true rfl, Nat.le_of_ble_eq_true rfl⟩) (mk_preV (ci := 0) mk_fr_id hK hN hE hS hA hP hD rfl rfl) rfl rfl hl.1 rfl (lv_room (Nat.le_of_ble_eq_true rfl)) dX0_add_60 ⟨Nat.le_of_ble_eq_true rfl, Nat.le_of_ble_eq_true rfl⟩) hP hD hS hA (fun u H locs h hP hD hS => ?_)
  obtain ⟨a7, rfl⟩ : ∃ z, z = u := ⟨_, rfl⟩
  try dsimp only at h
  have hP : va_P D vwCl (wo_X0 cI cZ ca_h ca_ad (upd ca_skill (ca_size.toNatClampNeg) x1) (upd ca_days (ca_size.toNatClampNeg) x2) (upd ca_wanted (ca_size.toNatClampNeg) x3) (upd ca_named (ca_size.toNatClampNeg) x4) (upd ca_minute (ca_size.toNatClampNeg) x5) (upd ca_day (ca_size.toNatClampNeg) x6) ca_refusers a7 ca_size) H := hP
  have hD : va_D A (wo_X0 cI cZ ca_h ca_ad (upd ca_skill (ca_size.toNatClampNeg) x1) (upd ca_days (ca_size.toNatClampNeg) x2) (upd ca_wanted (ca_size.toNatClampNeg) x3) (upd ca_named (ca_size.toNatClampNeg) x4) (upd ca_minute (ca_size.toNatClampNeg) x5) (upd ca_day (ca_size.toNatClampNeg) x6) ca_refusers a7 ca_size) := hD
  refine lv_aload_n hx hb dX0_add_63 rfl (lv_at hl 1 rfl) ?_
  refine lv_dup hx hb dX0_add_64 rfl ?_
  refine va_get (D := D) (ci := 0) (v := .int ca_size) (C := RX0) (T := TX0) (N := 9) hx hb hts mi_X0_add_X0 hown hK hP 0 rfl rfl 8 (by decide) (hts (.fieldLink RX0 36 "HiringHall$Calls" "size" "I") (List.mem_of_getElem? (i := 1) rfl)) (fun _ h9 => h9) rfl dX0_add_65 ?_
  refine lv_iconst (v := 1) hx hb dX0_add_68 (by decide) ?_
  refine lv_iadd hx hb dX0_add_69 ?_
  refine lv_topi (fun y8 e_y8 => ?_)
  have h := h y8 e_y8
  refine va_put (D := D) (ci := 0) (v := .int y8) (ty := .int) (C := RX0) (T := TX0) (N := 9) hx hb hts mi_X0_add_X0 tyX0 tyX0_ok nmX0 hown hK hP hD hS 0 rfl rfl 8 (by decide) (hts (.fieldLink RX0 36 "HiringHall$Calls" "size" "I") (List.mem_of_getElem? (i := 1) rfl)) (fun _ h9 => h9) rfl (by decide +kernel) rfl rfl (Nat.le_of_ble_eq_true rfl) dX0_add_70 (fun H locs hP hD hS => ?_)
  have hP : va_P D vwCl (wo_X0 cI cZ ca_h ca_ad (upd ca_skill (ca_size.toNatClampNeg) x1) (upd ca_days (ca_size.toNatClampNeg) x2) (upd ca_wanted (ca_size.toNatClampNeg) x3) (upd ca_named (ca_size.toNatClampNeg) x4) (upd ca_minute (ca_size.toNatClampNeg) x5) (upd ca_day (ca_size.toNatClampNeg) x6) ca_refusers a7 y8) H := hP
  have hD : va_D A (wo_X0 cI cZ ca_h ca_ad (upd ca_skill (ca_size.toNatClampNeg) x1) (upd ca_days (ca_size.toNatClampNeg) x2) (upd ca_wanted (ca_size.toNatClampNeg) x3) (upd ca_named (ca_size.toNatClampNeg) x4) (upd ca_minute (ca_size.toNatClampNeg) x5) (upd ca_day (ca_size.toNatClampNeg) x6) ca_refusers a7 y8) := hD
  refine lv_iload hx hb dX0_add_73 (lv_at hl 0 rfl) ?_
  rw [hQ]
  exact W.iret (v := ca_size) hx hb hr (fun t ht hW => ⟨⟨ca_size, ((upd ca_skill (ca_size.toNatClampNeg) x1), (upd ca_days (ca_size.toNatClampNeg) x2), (upd ca_wanted (ca_size.toNatClampNeg) x3), (upd ca_named (ca_size.toNatClampNeg) x4), (upd ca_minute (ca_size.toNatClampNeg) x5), (upd ca_day (ca_size.toNatClampNeg) x6), a7, y8), rfl, h, by rw [ht]; exact hP, va_K.moved hW.alike hK, hD⟩, hS.F ht⟩) hS.2.2 dX0_add_75
def rm_X0_refuses : Room := { frames := 0, cells := 0, slots := 0, locals := 0 }
theorem mi_X0_refuses_X0 : ∀ w ∈ wsX00, w ∈ wsX0_refuses := fun _ h => List.mem_cons_of_mem _ (List.mem_append_right _ h)
set_option maxHeartbeats 4000000 in
set_option maxRecDepth 100000 in
theorem c_X0_refuses (l : Launch) (D : va_G) (cI cZ : ClassId) (E : (Nat → Nat) × (Nat → Nat)) (ca_h : Nat) (ca_ad : Nat → Nat) (ca_skill : (Nat → Int32)) (ca_days : (Nat → Int32)) (ca_wanted : (Nat → Int32)) (ca_named : (Nat → Int32)) (ca_minute : (Nat → Int32)) (ca_day : (Nat → Int32)) (ca_refusers : (Nat → Int32)) (ca_order : (Nat → Int32)) (ca_size : Int32) (x1 : Int32) (x2 : Int32) (K : (Int32 → Prop)) (h : wp_X0_refuses ca_refusers x1 x2 K) : mk_Ci l D cI cZ E yX0_refuses wsX0_refuses rm_X0_refuses ([.ref ca_h, .int x1, .int x2] : List Value) (wo_X0 cI cZ ca_h ca_ad ca_skill ca_days ca_wanted ca_named ca_minute ca_day ca_refusers ca_order ca_size) (fun (u : Unit) => (wo_X0 cI cZ ca_h ca_ad ca_skill ca_days ca_wanted ca_named ca_minute ca_day ca_refusers ca_order ca_size)) (fun (r : Int32) (u : Unit) => K r) := by
  intro sz
  refine Met.ofW (cc := cX0_refuses) (maxL := 3) (ret := (some .boolean)) (by decide) rfl ?_
  intro p e s m args below meth c s₁ B hml hv
  obtain ⟨rfl, hsz, hP, hK, hD0, hN, hE⟩ := hv
  have hx := B.exec
  have hb := B.bytes
  have hr := B.returns
  have hts := atoms_spec (ws := wsX0_refuses) B.pre
  have hown : s.vm.findClass RX0 = some m.cls := findClass_of_methodNamed B.named
  have hlocks := B.notSynchronized
  subst hsz
  have hD := hD0.self (sz := s.heap.size)
  generalize hAe : va_A (wo_X0 cI cZ ca_h ca_ad ca_skill ca_days ca_wanted ca_named ca_minute ca_day ca_refusers ca_order ca_size) s.heap.size = A at hD hE ⊢
  have hA : ∀ q : Nat, s.heap.size ≤ q → A q := fun q h => by rw [← hAe]; exact Or.inr h
  have hl := lv_entry ([.ref ca_h, .int x1, .int x2] : List Value) (n := 3) (Nat.le_of_ble_eq_true rfl)
  rw [lg_entry_eq]
  generalize (lg_sl ([.ref ca_h, .int x1, .int x2] : List Value) ++ List.replicate (3 - (lg_sl ([.ref ca_h, .int x1, .int x2] : List Value)).length) Slot.unset).toArray = ls at hl ⊢
  have hl : lv_has ls 3 [(0, .ref ca_h), (1, .int x1), (2, .int x2)] := hl
  refine mk_absQ (P := fun Q => W p l e _ s m _ below meth c s.heap [] 0 0 Q _) (fun Q hQ => ?_)
  refine mk_absH (P := fun H => W p l e _ s m _ below meth c H [] 0 0 Q _) (fun H hH => ?_)
  have hP : va_P D vwCl (wo_X0 cI cZ ca_h ca_ad ca_skill ca_days ca_wanted ca_named ca_minute ca_day ca_refusers ca_order ca_size) H := by rw [hH]; exact hP
  have hS : va_S A s.heap H [] := by rw [hH]; exact va_S.rf
  refine lv_aload_n hx hb dX0_refuses_0 rfl (lv_at hl 0 rfl) ?_
  refine va_get (D := D) (ci := 0) (v := .ref (ca_ad 6)) (C := RX0) (T := TX0) (N := 9) hx hb hts mi_X0_refuses_X0 hown hK hP 0 rfl rfl 6 (by decide) (hts (.fieldLink RX0 30 "HiringHall$Calls" "refusers" "[I") (List.mem_of_getElem? (i := 1) rfl)) (fun _ h9 => h9) rfl dX0_refuses_1 ?_
  refine lv_iload_n hx hb dX0_refuses_4 rfl (lv_at hl 1 rfl) ?_
  obtain ⟨hi_1, h⟩ := h
  refine va_iald hx hb hK hP 7 0 rfl rfl hi_1 dX0_refuses_5 ?_
  refine lv_iload_n hx hb dX0_refuses_6 rfl (lv_at hl 2 rfl) ?_
  refine lv_ishr hx hb dX0_refuses_7 ?_
  refine lv_iconst (v := 1) hx hb dX0_refuses_8 (by decide) ?_
  refine lv_iand hx hb dX0_refuses_9 ?_
  refine lv_iconst (v := 1) hx hb dX0_refuses_10 (by decide) ?_
  refine lv_icmp_ne (tgt := 18) hx hb dX0_refuses_11 (by decide) (fun c_2 => ?_) (fun c_2 => ?_)
  · have h := h.1 c_2
    refine lv_iconst (v := 0) hx hb dX0_refuses_18 (by decide) ?_
    rw [hQ]
    exact W.zret (v := 0) hx hb hr rfl (fun t ht hW => ⟨⟨0, (), rfl, h, by rw [ht]; exact hP, va_K.moved hW.alike hK, hD⟩, hS.F ht⟩) hS.2.2 dX0_refuses_19
  · have h := h.2 c_2
    refine lv_iconst (v := 1) hx hb dX0_refuses_14 (by decide) ?_
    refine lv_goto (tgt := 19) hx hb dX0_refuses_15 (by decide) ?_
    rw [hQ]
    exact W.zret (v := 1) hx hb hr rfl (fun t ht hW => ⟨⟨1, (), rfl, h, by rw [ht]; exact hP, va_K.moved hW.alike hK, hD⟩, hS.F ht⟩) hS.2.2 dX0_refuses_19
def rm_X0_addRefusal : Room := { frames := 1, cells := 0, slots := 0, locals := 22 }
theorem mi_X0_addRefusal_X0 : ∀ w ∈ wsX00, w ∈ wsX0_addRefusal := fun _ h => List.mem_cons_of_mem _ (List.mem_append_right _ h)
set_option maxHeartbeats 4000000 in
set_option maxRecDepth 100000 in
theorem c_X0_addRefusal (l : Launch) (D : va_G) (cI cZ : ClassId) (E : (Nat → Nat) × (Nat → Nat)) (ca_h : Nat) (ca_ad : Nat → Nat) (ca_skill : (Nat → Int32)) (ca_days : (Nat → Int32)) (ca_wanted : (Nat → Int32)) (ca_named : (Nat → Int32)) (ca_minute : (Nat → Int32)) (ca_day : (Nat → Int32)) (ca_refusers : (Nat → Int32)) (ca_order : (Nat → Int32)) (ca_size : Int32) (x1 : Int32) (x2 : Int32) (K : (Int32 → (Nat → Int32) → Prop)) (h : wp_X0_addRefusal ca_refusers x1 x2 K) : mk_Ci l D cI cZ E yX0_addRefusal wsX0_addRefusal rm_X0_addRefusal ([.ref ca_h, .int x1, .int x2] : List Value) (wo_X0 cI cZ ca_h ca_ad ca_skill ca_days ca_wanted ca_named ca_minute ca_day ca_refusers ca_order ca_size) (fun (u : (Nat → Int32)) => (wo_X0 cI cZ ca_h ca_ad ca_skill ca_days ca_wanted ca_named ca_minute ca_day u ca_order ca_size)) (fun (r : Int32) (u : (Nat → Int32)) => K r u) := by
  intro sz
  refine Met.ofW (cc := cX0_addRefusal) (maxL := 3) (ret := (some .boolean)) (by decide) rfl ?_
  intro p e s m args below meth c s₁ B hml hv
  obtain ⟨rfl, hsz, hP, hK, hD0, hN, hE⟩ := hv
  have hx := B.exec
  have hb := B.bytes
  have hr := B.returns
  have hts := atoms_spec (ws := wsX0_addRefusal) B.pre
  have hown : s.vm.findClass RX0 = some m.cls := findClass_of_methodNamed B.named
  have hlocks := B.notSynchronized
  subst hsz
  have hD := hD0.self (sz := s.heap.size)
  generalize hAe : va_A (wo_X0 cI cZ ca_h ca_ad ca_skill ca_days ca_wanted ca_named ca_minute ca_day ca_refusers ca_order ca_size) s.heap.size = A at hD hE ⊢
  have hA : ∀ q : Nat, s.heap.size ≤ q → A q := fun q h => by rw [← hAe]; exact Or.inr h
  have hl := lv_entry ([.ref ca_h, .int x1, .int x2] : List Value) (n := 3) (Nat.le_of_ble_eq_true rfl)
  rw [lg_entry_eq]
  generalize (lg_sl ([.ref ca_h, .int x1, .int x2] : List Value) ++ List.replicate (3 - (lg_sl ([.ref ca_h, .int x1, .int x2] : List Value)).length) Slot.unset).toArray = ls at hl ⊢
  have hl : lv_has ls 3 [(0, .ref ca_h), (1, .int x1), (2, .int x2)] := hl
  refine mk_absQ (P := fun Q => W p l e _ s m _ below meth c s.heap [] 0 0 Q _) (fun Q hQ => ?_)
  refine mk_absH (P := fun H => W p l e _ s m _ below meth c H [] 0 0 Q _) (fun H hH => ?_)
  have hP : va_P D vwCl (wo_X0 cI cZ ca_h ca_ad ca_skill ca_days ca_wanted ca_named ca_minute ca_day ca_refusers ca_order ca_size) H := by rw [hH]; exact hP
  have hS : va_S A s.heap H [] := by rw [hH]; exact va_S.rf
  refine lv_aload_n hx hb dX0_addRefusal_0 rfl (lv_at hl 0 rfl) ?_
  refine lv_iload_n hx hb dX0_addRefusal_1 rfl (lv_at hl 1 rfl) ?_
  refine lv_iload_n hx hb dX0_addRefusal_2 rfl (lv_at hl 2 rfl) ?_
  have hP : va_P D vwCl ((fun v => v) (wo_X0 cI cZ ca_h ca_ad ca_skill ca_days ca_wanted ca_named ca_minute ca_day ca_refusers ca_order ca_size)) H := hP
  have hD : va_D A ((fun v => v) (wo_X0 cI cZ ca_h ca_ad ca_skill ca_days ca_wanted ca_named ca_minute ca_day ca_refusers ca_order ca_size)) := hD
  refine mk_ci (f := fun v => v) mk_fr_id (va_runV (As := [.int x1, .int x2]) (rest := []) ⟨hx, hb, hml, hown, hts⟩ (c_X0_refuses l D cI cZ E ca_h ca_ad ca_skill ca_days ca_wanted ca_named ca_minute ca_day ca_refusers ca_order ca_size x1 x2 _ h H.size) (cwV 2 hts gX0_addRefusal_X0_refuses rfl rfl rfl (by decide +kernel) ⟨Nat.le_of_ble_eq_true rfl, Nat.le_of_ble_eq_true rfl⟩) (mk_preV (ci := 0) mk_fr_id hK hN hE hS hA hP hD rfl rfl) rfl rfl hl.1 rfl (lv_room (Nat.le_of_ble_eq_true rfl)) dX0_addRefusal_3 ⟨Nat.le_of_ble_eq_true rfl, Nat.le_of_ble_eq_true rfl⟩) hP hD hS hA (fun r1 u H locs h hP hD hS => ?_)
  try dsimp only at h
  have hP : va_P D vwCl (wo_X0 cI cZ ca_h ca_ad ca_skill ca_days ca_wanted ca_named ca_minute ca_day ca_refusers ca_order ca_size) H := hP
  have hD : va_D A (wo_X0 cI cZ ca_h ca_ad ca_skill ca_days ca_wanted ca_named ca_minute ca_day ca_refusers ca_order ca_size) := hD
  refine lv_if_eq (tgt := 11) hx hb dX0_addRefusal_6 (by decide) (fun c_2 => ?_) (fun c_2 => ?_)
  · have h := h.1 c_2
    refine lv_aload_n hx hb dX0_addRefusal_11 rfl (lv_at hl 0 rfl) ?_
    refine va_get (D := D) (ci := 0) (v := .ref (ca_ad 6)) (C := RX0) (T := TX0) (N := 9) hx hb hts mi_X0_addRefusal_X0 hown hK hP 0 rfl rfl 6 (by decide) (hts (.fieldLink RX0 30 "HiringHall$Calls" "refusers" "[I") (List.mem_of_getElem? (i := 1) rfl)) (fun _ h9 => h9) rfl dX0_addRefusal_12 ?_
    refine lv_iload_n hx hb dX0_addRefusal_15 rfl (lv_at hl 1 rfl) ?_
    refine lv_dup2_11 hx hb dX0_addRefusal_16 rfl rfl ?_
    obtain ⟨hi_3, h⟩ := h
    refine va_iald hx hb hK hP 7 0 rfl rfl hi_3 dX0_addRefusal_17 ?_
    refine lv_iconst (v := 1) hx hb dX0_addRefusal_18 (by decide) ?_
    refine lv_iload_n hx hb dX0_addRefusal_19 rfl (lv_at hl 2 rfl) ?_
    refine lv_ishl hx hb dX0_addRefusal_20 ?_
    refine lv_ior hx hb dX0_addRefusal_21 ?_
    refine lv_topi (fun y4 e_y4 => ?_)
    have h := h y4 e_y4
    obtain ⟨hi_5, h⟩ := h
    refine va_iast hx hb hK hP hD hS 7 0 rfl rfl hi_5 dX0_addRefusal_22 (fun H locs hP hD hS => ?_)
    have hP : va_P D vwCl (wo_X0 cI cZ ca_h ca_ad ca_skill ca_days ca_wanted ca_named ca_minute ca_day (upd ca_refusers (x1.toNatClampNeg) y4) ca_order ca_size) H := hP
    have hD : va_D A (wo_X0 cI cZ ca_h ca_ad ca_skill ca_days ca_wanted ca_named ca_minute ca_day (upd ca_refusers (x1.toNatClampNeg) y4) ca_order ca_size) := hD
    refine lv_iconst (v := 1) hx hb dX0_addRefusal_23 (by decide) ?_
    rw [hQ]
    exact W.zret (v := 1) hx hb hr rfl (fun t ht hW => ⟨⟨1, ((upd ca_refusers (x1.toNatClampNeg) y4)), rfl, h, by rw [ht]; exact hP, va_K.moved hW.alike hK, hD⟩, hS.F ht⟩) hS.2.2 dX0_addRefusal_24
  · have h := h.2 c_2
    refine lv_iconst (v := 0) hx hb dX0_addRefusal_9 (by decide) ?_
    rw [hQ]
    exact W.zret (v := 0) hx hb hr rfl (fun t ht hW => ⟨⟨0, (ca_refusers), rfl, h, by rw [ht]; exact hP, va_K.moved hW.alike hK, hD⟩, hS.F ht⟩) hS.2.2 dX0_addRefusal_10
