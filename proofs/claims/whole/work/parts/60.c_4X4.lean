def rm_X4_isKnown : Room := { frames := 0, cells := 0, slots := 0, locals := 0 }
theorem mi_X4_isKnown_X4 : ∀ w ∈ wsX40, w ∈ wsX4_isKnown := fun _ h => List.mem_cons_of_mem _ (List.mem_append_right _ h)
set_option maxHeartbeats 4000000 in
set_option maxRecDepth 100000 in
theorem c_X4_isKnown (l : Launch) (D : va_G) (cI cZ : ClassId) (E : (Nat → Nat) × (Nat → Nat)) (ru_h : Nat) (ru_ad : Nat → Nat) (ru_from : (Nat → Int32)) (ru_voted : (Nat → Int32)) (ru_undone : (Nat → Int32)) (ru_says : (Nat → Int32)) (ru_texts : Int32) (ru_lines : Int32) (x1 : Int32) (x2 : Int32) (K : (Int32 → Prop)) (h : wp_X4_isKnown ru_voted ru_undone x1 x2 K) : mk_Ci l D cI cZ E yX4_isKnown wsX4_isKnown rm_X4_isKnown ([.ref ru_h, .int x1, .int x2] : List Value) (wo_X4 cI cZ ru_h ru_ad ru_from ru_voted ru_undone ru_says ru_texts ru_lines) (fun (u : Unit) => (wo_X4 cI cZ ru_h ru_ad ru_from ru_voted ru_undone ru_says ru_texts ru_lines)) (fun (r : Int32) (u : Unit) => K r) := by
  intro sz
  refine Met.ofW (cc := cX4_isKnown) (maxL := 3) (ret := (some .boolean)) (by decide) rfl ?_
  intro p e s m args below meth c s₁ B hml hv
  obtain ⟨rfl, hsz, hP, hK, hD0, hN, hE⟩ := hv
  have hx := B.exec
  have hb := B.bytes
  have hr := B.returns
  have hts := atoms_spec (ws := wsX4_isKnown) B.pre
  have hown : s.vm.findClass RX4 = some m.cls := findClass_of_methodNamed B.named
  have hlocks := B.notSynchronized
  subst hsz
  have hD := hD0.self (sz := s.heap.size)
  generalize hAe : va_A (wo_X4 cI cZ ru_h ru_ad ru_from ru_voted ru_undone ru_says ru_texts ru_lines) s.heap.size = A at hD hE ⊢
  have hA : ∀ q : Nat, s.heap.size ≤ q → A q := fun q h => by rw [← hAe]; exact Or.inr h
  have hl := lv_entry ([.ref ru_h, .int x1, .int x2] : List Value) (n := 3) (Nat.le_of_ble_eq_true rfl)
  rw [lg_entry_eq]
  generalize (lg_sl ([.ref ru_h, .int x1, .int x2] : List Value) ++ List.replicate (3 - (lg_sl ([.ref ru_h, .int x1, .int x2] : List Value)).length) Slot.unset).toArray = ls at hl ⊢
  have hl : lv_has ls 3 [(0, .ref ru_h), (1, .int x1), (2, .int x2)] := hl
  refine mk_absQ (P := fun Q => W p l e _ s m _ below meth c s.heap [] 0 0 Q _) (fun Q hQ => ?_)
  refine mk_absH (P := fun H => W p l e _ s m _ below meth c H [] 0 0 Q _) (fun H hH => ?_)
  have hP : va_P D vwCl (wo_X4 cI cZ ru_h ru_ad ru_from ru_voted ru_undone ru_says ru_texts ru_lines) H := by rw [hH]; exact hP
  have hS : va_S A s.heap H [] := by rw [hH]; exact va_S.rf
  refine lv_aload_n hx hb dX4_isKnown_0 rfl (lv_at hl 0 rfl) ?_
  refine va_get (D := D) (ci := 4) (v := .ref (ru_ad 1)) (C := RX4) (T := TX4) (N := 6) hx hb hts mi_X4_isKnown_X4 hown hK hP 0 rfl rfl 1 (by decide) (hts (.fieldLink RX4 15 "HiringHall$Rules" "voted" "[I") (List.mem_of_getElem? (i := 1) rfl)) (fun _ h9 => h9) rfl dX4_isKnown_1 ?_
  refine lv_iload_n hx hb dX4_isKnown_4 rfl (lv_at hl 1 rfl) ?_
  obtain ⟨hi_1, h⟩ := h
  refine va_iald hx hb hK hP 2 0 rfl rfl hi_1 dX4_isKnown_5 ?_
  refine lv_iload_n hx hb dX4_isKnown_6 rfl (lv_at hl 2 rfl) ?_
  refine lv_icmp_gt (tgt := 34) hx hb dX4_isKnown_7 (by decide) (fun c_2 => ?_) (fun c_2 => ?_)
  · have h := h.1 c_2
    refine lv_iconst (v := 0) hx hb dX4_isKnown_34 (by decide) ?_
    rw [hQ]
    exact W.zret (v := 0) hx hb hr rfl (fun t ht hW => ⟨⟨0, (), rfl, h, by rw [ht]; exact hP, va_K.moved hW.alike hK, hD⟩, hS.F ht⟩) hS.2.2 dX4_isKnown_35
  · have h := h.2 c_2
    refine lv_aload_n hx hb dX4_isKnown_10 rfl (lv_at hl 0 rfl) ?_
    refine va_get (D := D) (ci := 4) (v := .ref (ru_ad 2)) (C := RX4) (T := TX4) (N := 6) hx hb hts mi_X4_isKnown_X4 hown hK hP 0 rfl rfl 2 (by decide) (hts (.fieldLink RX4 18 "HiringHall$Rules" "undone" "[I") (List.mem_of_getElem? (i := 2) rfl)) (fun _ h9 => h9) rfl dX4_isKnown_11 ?_
    refine lv_iload_n hx hb dX4_isKnown_14 rfl (lv_at hl 1 rfl) ?_
    obtain ⟨hi_3, h⟩ := h
    refine va_iald hx hb hK hP 3 0 rfl rfl hi_3 dX4_isKnown_15 ?_
    refine lv_iconst (v := (-1)) hx hb dX4_isKnown_16 (by decide) ?_
    refine lv_icmp_eq (tgt := 30) hx hb dX4_isKnown_17 (by decide) (fun c_4 => ?_) (fun c_4 => ?_)
    · have h := h.1 c_4
      refine lv_iconst (v := 1) hx hb dX4_isKnown_30 (by decide) ?_
      refine lv_goto (tgt := 35) hx hb dX4_isKnown_31 (by decide) ?_
      rw [hQ]
      exact W.zret (v := 1) hx hb hr rfl (fun t ht hW => ⟨⟨1, (), rfl, h, by rw [ht]; exact hP, va_K.moved hW.alike hK, hD⟩, hS.F ht⟩) hS.2.2 dX4_isKnown_35
    · have h := h.2 c_4
      refine lv_aload_n hx hb dX4_isKnown_20 rfl (lv_at hl 0 rfl) ?_
      refine va_get (D := D) (ci := 4) (v := .ref (ru_ad 2)) (C := RX4) (T := TX4) (N := 6) hx hb hts mi_X4_isKnown_X4 hown hK hP 0 rfl rfl 2 (by decide) (hts (.fieldLink RX4 18 "HiringHall$Rules" "undone" "[I") (List.mem_of_getElem? (i := 2) rfl)) (fun _ h9 => h9) rfl dX4_isKnown_21 ?_
      refine lv_iload_n hx hb dX4_isKnown_24 rfl (lv_at hl 1 rfl) ?_
      obtain ⟨hi_5, h⟩ := h
      refine va_iald hx hb hK hP 3 0 rfl rfl hi_5 dX4_isKnown_25 ?_
      refine lv_iload_n hx hb dX4_isKnown_26 rfl (lv_at hl 2 rfl) ?_
      refine lv_icmp_le (tgt := 34) hx hb dX4_isKnown_27 (by decide) (fun c_6 => ?_) (fun c_6 => ?_)
      · have h := h.1 c_6
        refine lv_iconst (v := 0) hx hb dX4_isKnown_34 (by decide) ?_
        rw [hQ]
        exact W.zret (v := 0) hx hb hr rfl (fun t ht hW => ⟨⟨0, (), rfl, h, by rw [ht]; exact hP, va_K.moved hW.alike hK, hD⟩, hS.F ht⟩) hS.2.2 dX4_isKnown_35
      · have h := h.2 c_6
        refine lv_iconst (v := 1) hx hb dX4_isKnown_30 (by decide) ?_
        refine lv_goto (tgt := 35) hx hb dX4_isKnown_31 (by decide) ?_
        rw [hQ]
        exact W.zret (v := 1) hx hb hr rfl (fun t ht hW => ⟨⟨1, (), rfl, h, by rw [ht]; exact hP, va_K.moved hW.alike hK, hD⟩, hS.F ht⟩) hS.2.2 dX4_isKnown_35
def rm_X4_said : Room := { frames := 1, cells := 0, slots := 0, locals := 22 }
theorem mi_X4_said_X4 : ∀ w ∈ wsX40, w ∈ wsX4_said := fun _ h => List.mem_cons_of_mem _ (List.mem_append_right _ h)
set_option maxHeartbeats 4000000 in
set_option maxRecDepth 100000 in
theorem c_X4_said (l : Launch) (D : va_G) (cI cZ : ClassId) (E : (Nat → Nat) × (Nat → Nat)) (ru_h : Nat) (ru_ad : Nat → Nat) (ru_from : (Nat → Int32)) (ru_voted : (Nat → Int32)) (ru_undone : (Nat → Int32)) (ru_says : (Nat → Int32)) (ru_texts : Int32) (ru_lines : Int32) (x1 : Int32) (x2 : Int32) (x3 : Int32) (K : (Int32 → Prop)) (h : wp_X4_said ru_from ru_voted ru_undone ru_says ru_texts x1 x2 x3 K) : mk_Ci l D cI cZ E yX4_said wsX4_said rm_X4_said ([.ref ru_h, .int x1, .int x2, .int x3] : List Value) (wo_X4 cI cZ ru_h ru_ad ru_from ru_voted ru_undone ru_says ru_texts ru_lines) (fun (u : Unit) => (wo_X4 cI cZ ru_h ru_ad ru_from ru_voted ru_undone ru_says ru_texts ru_lines)) (fun (r : Int32) (u : Unit) => K r) := by
  intro sz
  refine Met.ofW (cc := cX4_said) (maxL := 6) (ret := (some .int)) (by decide) rfl ?_
  intro p e s m args below meth c s₁ B hml hv
  obtain ⟨rfl, hsz, hP, hK, hD0, hN, hE⟩ := hv
  have hx := B.exec
  have hb := B.bytes
  have hr := B.returns
  have hts := atoms_spec (ws := wsX4_said) B.pre
  have hown : s.vm.findClass RX4 = some m.cls := findClass_of_methodNamed B.named
  have hlocks := B.notSynchronized
  subst hsz
  have hD := hD0.self (sz := s.heap.size)
  generalize hAe : va_A (wo_X4 cI cZ ru_h ru_ad ru_from ru_voted ru_undone ru_says ru_texts ru_lines) s.heap.size = A at hD hE ⊢
  have hA : ∀ q : Nat, s.heap.size ≤ q → A q := fun q h => by rw [← hAe]; exact Or.inr h
  have hl := lv_entry ([.ref ru_h, .int x1, .int x2, .int x3] : List Value) (n := 6) (Nat.le_of_ble_eq_true rfl)
  rw [lg_entry_eq]
  generalize (lg_sl ([.ref ru_h, .int x1, .int x2, .int x3] : List Value) ++ List.replicate (6 - (lg_sl ([.ref ru_h, .int x1, .int x2, .int x3] : List Value)).length) Slot.unset).toArray = ls at hl ⊢
  have hl : lv_has ls 6 [(0, .ref ru_h), (1, .int x1), (2, .int x2), (3, .int x3)] := hl
  refine mk_absQ (P := fun Q => W p l e _ s m _ below meth c s.heap [] 0 0 Q _) (fun Q hQ => ?_)
  refine mk_absH (P := fun H => W p l e _ s m _ below meth c H [] 0 0 Q _) (fun H hH => ?_)
  have hP : va_P D vwCl (wo_X4 cI cZ ru_h ru_ad ru_from ru_voted ru_undone ru_says ru_texts ru_lines) H := by rw [hH]; exact hP
  have hS : va_S A s.heap H [] := by rw [hH]; exact va_S.rf
  have b6 : ∀ (n : Nat), ∀ (x4 : Int32) (x5 : Int32), wp_X4_said_b6 K ru_from ru_voted ru_undone ru_says ru_texts x1 x2 x3 n x4 x5 → ∀ (H : Heap) (locs : List Loc) (ls : Array Slot), va_P D vwCl (wo_X4 cI cZ ru_h ru_ad ru_from ru_voted ru_undone ru_says ru_texts ru_lines) H → va_D A (wo_X4 cI cZ ru_h ru_ad ru_from ru_voted ru_undone ru_says ru_texts ru_lines) → va_S A s.heap H locs → lv_has ls 6 [(0, .ref ru_h), (1, .int x1), (2, .int x2), (3, .int x3), (4, .int x4), (5, .int x5)] → W p l e (headSpec wsX4_said rm_X4_said).room s m ([.ref ru_h, .int x1, .int x2, .int x3] : List Value).toArray below meth c H locs 0 0 Q (F0 m 6 ls []) := by
    intro n
    induction n with
    | zero => intro x4 x5 h; exact False.elim h
    | succ n ih =>
      intro x4 x5 h H locs ls hP hD hS hl
      refine lv_iload hx hb dX4_said_6 (lv_at hl 5 rfl) ?_
      refine lv_aload_n hx hb dX4_said_8 rfl (lv_at hl 0 rfl) ?_
      refine va_get (D := D) (ci := 4) (v := .int ru_texts) (C := RX4) (T := TX4) (N := 6) hx hb hts mi_X4_said_X4 hown hK hP 0 rfl rfl 4 (by decide) (hts (.fieldLink RX4 24 "HiringHall$Rules" "texts" "I") (List.mem_of_getElem? (i := 1) rfl)) (fun _ h9 => h9) rfl dX4_said_9 ?_
      refine lv_icmp_ge (tgt := 85) hx hb dX4_said_12 (by decide) (fun c_1 => ?_) (fun c_1 => ?_)
      · have h := h.1 c_1
        refine lv_iload hx hb dX4_said_85 (lv_at hl 4 rfl) ?_
        refine lv_iconst (v := (-1)) hx hb dX4_said_87 (by decide) ?_
        refine lv_icmp_ne (tgt := 95) hx hb dX4_said_88 (by decide) (fun c_2 => ?_) (fun c_2 => ?_)
        · have h := h.1 c_2
          refine lv_aload_n hx hb dX4_said_95 rfl (lv_at hl 0 rfl) ?_
          refine va_get (D := D) (ci := 4) (v := .ref (ru_ad 3)) (C := RX4) (T := TX4) (N := 6) hx hb hts mi_X4_said_X4 hown hK hP 0 rfl rfl 3 (by decide) (hts (.fieldLink RX4 21 "HiringHall$Rules" "says" "[I") (List.mem_of_getElem? (i := 2) rfl)) (fun _ h9 => h9) rfl dX4_said_96 ?_
          refine lv_iload hx hb dX4_said_99 (lv_at hl 4 rfl) ?_
          refine lv_bipush (v := 8) hx hb dX4_said_101 (by decide) ?_
          refine lv_imul hx hb dX4_said_103 ?_
          refine lv_iload_n hx hb dX4_said_104 rfl (lv_at hl 1 rfl) ?_
          refine lv_iadd hx hb dX4_said_105 ?_
          obtain ⟨hi_3, h⟩ := h
          refine va_iald hx hb hK hP 4 0 rfl rfl hi_3 dX4_said_106 ?_
          rw [hQ]
          exact W.iret (v := (ru_says (((x4 * 8) + x1).toNatClampNeg))) hx hb hr (fun t ht hW => ⟨⟨(ru_says (((x4 * 8) + x1).toNatClampNeg)), (), rfl, h, by rw [ht]; exact hP, va_K.moved hW.alike hK, hD⟩, hS.F ht⟩) hS.2.2 dX4_said_107
        · have h := h.2 c_2
          refine lv_iconst (v := 0) hx hb dX4_said_91 (by decide) ?_
          refine lv_goto (tgt := 107) hx hb dX4_said_92 (by decide) ?_
          rw [hQ]
          exact W.iret (v := 0) hx hb hr (fun t ht hW => ⟨⟨0, (), rfl, h, by rw [ht]; exact hP, va_K.moved hW.alike hK, hD⟩, hS.F ht⟩) hS.2.2 dX4_said_107
      · have h := h.2 c_1
        refine lv_aload_n hx hb dX4_said_15 rfl (lv_at hl 0 rfl) ?_
        refine va_get (D := D) (ci := 4) (v := .ref (ru_ad 3)) (C := RX4) (T := TX4) (N := 6) hx hb hts mi_X4_said_X4 hown hK hP 0 rfl rfl 3 (by decide) (hts (.fieldLink RX4 21 "HiringHall$Rules" "says" "[I") (List.mem_of_getElem? (i := 2) rfl)) (fun _ h9 => h9) rfl dX4_said_16 ?_
        refine lv_iload hx hb dX4_said_19 (lv_at hl 5 rfl) ?_
        refine lv_bipush (v := 8) hx hb dX4_said_21 (by decide) ?_
        refine lv_imul hx hb dX4_said_23 ?_
        refine lv_iload_n hx hb dX4_said_24 rfl (lv_at hl 1 rfl) ?_
        refine lv_iadd hx hb dX4_said_25 ?_
        obtain ⟨hi_4, h⟩ := h
        refine va_iald hx hb hK hP 4 0 rfl rfl hi_4 dX4_said_26 ?_
        refine lv_iconst (v := (-1)) hx hb dX4_said_27 (by decide) ?_
        refine lv_icmp_eq (tgt := 79) hx hb dX4_said_28 (by decide) (fun c_5 => ?_) (fun c_5 => ?_)
        · have h := h.1 c_5
          obtain ⟨y6, e_y6⟩ : ∃ y : Int32, y = x5 + 1 := ⟨_, rfl⟩
          have h := h y6 e_y6
          refine lv_iinc (v := y6) (lv' := [(5, .int y6), (0, .ref ru_h), (1, .int x1), (2, .int x2), (3, .int x3), (4, .int x4)]) hx hb dX4_said_79 hl (k := 5) rfl (by rw [e_y6]; rfl) (by decide) rfl (fun ls hl => ?_)
          refine lv_goto (tgt := 6) hx hb dX4_said_82 (by decide) ?_
          exact ih x4 y6 h _ _ _ hP hD hS (lv_sub hl [1, 2, 3, 4, 5, 0] rfl)
        · have h := h.2 c_5
          refine lv_aload_n hx hb dX4_said_31 rfl (lv_at hl 0 rfl) ?_
          refine va_get (D := D) (ci := 4) (v := .ref (ru_ad 0)) (C := RX4) (T := TX4) (N := 6) hx hb hts mi_X4_said_X4 hown hK hP 0 rfl rfl 0 (by decide) (hts (.fieldLink RX4 9 "HiringHall$Rules" "from" "[I") (List.mem_of_getElem? (i := 3) rfl)) (fun _ h9 => h9) rfl dX4_said_32 ?_
          refine lv_iload hx hb dX4_said_35 (lv_at hl 5 rfl) ?_
          obtain ⟨hi_7, h⟩ := h
          refine va_iald hx hb hK hP 1 0 rfl rfl hi_7 dX4_said_37 ?_
          refine lv_iload_n hx hb dX4_said_38 rfl (lv_at hl 2 rfl) ?_
          refine lv_icmp_gt (tgt := 79) hx hb dX4_said_39 (by decide) (fun c_8 => ?_) (fun c_8 => ?_)
          · have h := h.1 c_8
            obtain ⟨y9, e_y9⟩ : ∃ y : Int32, y = x5 + 1 := ⟨_, rfl⟩
            have h := h y9 e_y9
            refine lv_iinc (v := y9) (lv' := [(5, .int y9), (0, .ref ru_h), (1, .int x1), (2, .int x2), (3, .int x3), (4, .int x4)]) hx hb dX4_said_79 hl (k := 5) rfl (by rw [e_y9]; rfl) (by decide) rfl (fun ls hl => ?_)
            refine lv_goto (tgt := 6) hx hb dX4_said_82 (by decide) ?_
            exact ih x4 y9 h _ _ _ hP hD hS (lv_sub hl [1, 2, 3, 4, 5, 0] rfl)
          · have h := h.2 c_8
            refine lv_aload_n hx hb dX4_said_42 rfl (lv_at hl 0 rfl) ?_
            refine lv_iload hx hb dX4_said_43 (lv_at hl 5 rfl) ?_
            refine lv_iload_n hx hb dX4_said_45 rfl (lv_at hl 3 rfl) ?_
            have hP : va_P D vwCl ((fun v => v) (wo_X4 cI cZ ru_h ru_ad ru_from ru_voted ru_undone ru_says ru_texts ru_lines)) H := hP
            have hD : va_D A ((fun v => v) (wo_X4 cI cZ ru_h ru_ad ru_from ru_voted ru_undone ru_says ru_texts ru_lines)) := hD
            refine mk_ci (f := fun v => v) mk_fr_id (va_runV (As := [.int x5, .int x3]) (rest := []) ⟨hx, hb, hml, hown, hts⟩ (c_X4_isKnown l D cI cZ E ru_h ru_ad ru_from ru_voted ru_undone ru_says ru_texts ru_lines x5 x3 _ h H.size) (cwV 2 hts gX4_said_X4_isKnown rfl rfl rfl (by decide +kernel) ⟨Nat.le_of_ble_eq_true rfl, Nat.le_of_ble_eq_true rfl⟩) (mk_preV (ci := 4) mk_fr_id hK hN hE hS hA hP hD rfl rfl) rfl rfl hl.1 rfl (lv_room (Nat.le_of_ble_eq_true rfl)) dX4_said_46 ⟨Nat.le_of_ble_eq_true rfl, Nat.le_of_ble_eq_true rfl⟩) hP hD hS hA (fun r10 u H locs h hP hD hS => ?_)
            try dsimp only at h
            have hP : va_P D vwCl (wo_X4 cI cZ ru_h ru_ad ru_from ru_voted ru_undone ru_says ru_texts ru_lines) H := hP
            have hD : va_D A (wo_X4 cI cZ ru_h ru_ad ru_from ru_voted ru_undone ru_says ru_texts ru_lines) := hD
            refine lv_if_eq (tgt := 79) hx hb dX4_said_49 (by decide) (fun c_11 => ?_) (fun c_11 => ?_)
            · have h := h.1 c_11
              obtain ⟨y12, e_y12⟩ : ∃ y : Int32, y = x5 + 1 := ⟨_, rfl⟩
              have h := h y12 e_y12
              refine lv_iinc (v := y12) (lv' := [(5, .int y12), (0, .ref ru_h), (1, .int x1), (2, .int x2), (3, .int x3), (4, .int x4)]) hx hb dX4_said_79 hl (k := 5) rfl (by rw [e_y12]; rfl) (by decide) rfl (fun ls hl => ?_)
              refine lv_goto (tgt := 6) hx hb dX4_said_82 (by decide) ?_
              exact ih x4 y12 h _ _ _ hP hD hS (lv_sub hl [1, 2, 3, 4, 5, 0] rfl)
            · have h := h.2 c_11
              refine lv_iload hx hb dX4_said_52 (lv_at hl 4 rfl) ?_
              refine lv_iconst (v := (-1)) hx hb dX4_said_54 (by decide) ?_
              refine lv_icmp_eq (tgt := 75) hx hb dX4_said_55 (by decide) (fun c_13 => ?_) (fun c_13 => ?_)
              · have h := h.1 c_13
                refine lv_iload hx hb dX4_said_75 (lv_at hl 5 rfl) ?_
                refine lv_istore (lv' := [(4, .int x5), (0, .ref ru_h), (1, .int x1), (2, .int x2), (3, .int x3), (5, .int x5)]) hx hb dX4_said_77 hl (by decide) rfl (fun ls hl => ?_)
                obtain ⟨y14, e_y14⟩ : ∃ y : Int32, y = x5 + 1 := ⟨_, rfl⟩
                have h := h y14 e_y14
                refine lv_iinc (v := y14) (lv' := [(5, .int y14), (4, .int x5), (0, .ref ru_h), (1, .int x1), (2, .int x2), (3, .int x3)]) hx hb dX4_said_79 hl (k := 5) rfl (by rw [e_y14]; rfl) (by decide) rfl (fun ls hl => ?_)
                refine lv_goto (tgt := 6) hx hb dX4_said_82 (by decide) ?_
                exact ih x5 y14 h _ _ _ hP hD hS (lv_sub hl [2, 3, 4, 5, 1, 0] rfl)
              · have h := h.2 c_13
                refine lv_aload_n hx hb dX4_said_58 rfl (lv_at hl 0 rfl) ?_
                refine va_get (D := D) (ci := 4) (v := .ref (ru_ad 0)) (C := RX4) (T := TX4) (N := 6) hx hb hts mi_X4_said_X4 hown hK hP 0 rfl rfl 0 (by decide) (hts (.fieldLink RX4 9 "HiringHall$Rules" "from" "[I") (List.mem_of_getElem? (i := 3) rfl)) (fun _ h9 => h9) rfl dX4_said_59 ?_
                refine lv_iload hx hb dX4_said_62 (lv_at hl 5 rfl) ?_
                obtain ⟨hi_15, h⟩ := h
                refine va_iald hx hb hK hP 1 0 rfl rfl hi_15 dX4_said_64 ?_
                refine lv_aload_n hx hb dX4_said_65 rfl (lv_at hl 0 rfl) ?_
                refine va_get (D := D) (ci := 4) (v := .ref (ru_ad 0)) (C := RX4) (T := TX4) (N := 6) hx hb hts mi_X4_said_X4 hown hK hP 0 rfl rfl 0 (by decide) (hts (.fieldLink RX4 9 "HiringHall$Rules" "from" "[I") (List.mem_of_getElem? (i := 3) rfl)) (fun _ h9 => h9) rfl dX4_said_66 ?_
                refine lv_iload hx hb dX4_said_69 (lv_at hl 4 rfl) ?_
                obtain ⟨hi_16, h⟩ := h
                refine va_iald hx hb hK hP 1 0 rfl rfl hi_16 dX4_said_71 ?_
                refine lv_icmp_lt (tgt := 79) hx hb dX4_said_72 (by decide) (fun c_17 => ?_) (fun c_17 => ?_)
                · have h := h.1 c_17
                  obtain ⟨y18, e_y18⟩ : ∃ y : Int32, y = x5 + 1 := ⟨_, rfl⟩
                  have h := h y18 e_y18
                  refine lv_iinc (v := y18) (lv' := [(5, .int y18), (0, .ref ru_h), (1, .int x1), (2, .int x2), (3, .int x3), (4, .int x4)]) hx hb dX4_said_79 hl (k := 5) rfl (by rw [e_y18]; rfl) (by decide) rfl (fun ls hl => ?_)
                  refine lv_goto (tgt := 6) hx hb dX4_said_82 (by decide) ?_
                  exact ih x4 y18 h _ _ _ hP hD hS (lv_sub hl [1, 2, 3, 4, 5, 0] rfl)
                · have h := h.2 c_17
                  refine lv_iload hx hb dX4_said_75 (lv_at hl 5 rfl) ?_
                  refine lv_istore (lv' := [(4, .int x5), (0, .ref ru_h), (1, .int x1), (2, .int x2), (3, .int x3), (5, .int x5)]) hx hb dX4_said_77 hl (by decide) rfl (fun ls hl => ?_)
                  obtain ⟨y19, e_y19⟩ : ∃ y : Int32, y = x5 + 1 := ⟨_, rfl⟩
                  have h := h y19 e_y19
                  refine lv_iinc (v := y19) (lv' := [(5, .int y19), (4, .int x5), (0, .ref ru_h), (1, .int x1), (2, .int x2), (3, .int x3)]) hx hb dX4_said_79 hl (k := 5) rfl (by rw [e_y19]; rfl) (by decide) rfl (fun ls hl => ?_)
                  refine lv_goto (tgt := 6) hx hb dX4_said_82 (by decide) ?_
                  exact ih x5 y19 h _ _ _ hP hD hS (lv_sub hl [2, 3, 4, 5, 1, 0] rfl)
  refine lv_iconst (v := (-1)) hx hb dX4_said_0 (by decide) ?_
  refine lv_istore (lv' := [(4, .int (-1)), (0, .ref ru_h), (1, .int x1), (2, .int x2), (3, .int x3)]) hx hb dX4_said_1 hl (by decide) rfl (fun ls hl => ?_)
  refine lv_iconst (v := 0) hx hb dX4_said_3 (by decide) ?_
  refine lv_istore (lv' := [(5, .int 0), (4, .int (-1)), (0, .ref ru_h), (1, .int x1), (2, .int x2), (3, .int x3)]) hx hb dX4_said_4 hl (by decide) rfl (fun ls hl => ?_)
  obtain ⟨n, h⟩ := h
  exact b6  n (-1) 0 h _ _ _ hP hD hS (lv_sub hl [2, 3, 4, 5, 1, 0] rfl)
def rm_X4_add : Room := { frames := 1, cells := 0, slots := 0, locals := 60 }
theorem mi_X4_add_X4 : ∀ w ∈ wsX40, w ∈ wsX4_add := fun _ h => List.mem_cons_of_mem _ (List.mem_append_right _ h)
set_option maxHeartbeats 4000000 in
set_option maxRecDepth 100000 in
theorem c_X4_add (l : Launch) (D : va_G) (cI cZ : ClassId) (E : (Nat → Nat) × (Nat → Nat)) (ru_h : Nat) (ru_ad : Nat → Nat) (xa_h : Nat) (ru_from : (Nat → Int32)) (ru_voted : (Nat → Int32)) (ru_undone : (Nat → Int32)) (ru_says : (Nat → Int32)) (ru_texts : Int32) (ru_lines : Int32) (xa : Nat → Int32) (x2 : Int32) (x3 : Int32) (x4 : Int32) (K : (Int32 → (Nat → Int32) → (Nat → Int32) → (Nat → Int32) → (Nat → Int32) → Int32 → Int32 → Prop)) (h : wp_X4_add ru_from ru_voted ru_undone ru_says ru_texts ru_lines xa x2 x3 x4 K) : mk_Ci l D cI cZ E yX4_add wsX4_add rm_X4_add ([.ref ru_h, .ref xa_h, .int x2, .int x3, .int x4] : List Value) ((wo_X4 cI cZ ru_h ru_ad ru_from ru_voted ru_undone ru_says ru_texts ru_lines) ++ ([(xa_h, .inl (cI, 8, .inl xa))] : va_W)) (fun (u : (Nat → Int32) × (Nat → Int32) × (Nat → Int32) × (Nat → Int32) × Int32 × Int32) => ((wo_X4 cI cZ ru_h ru_ad u.1 u.2.1 u.2.2.1 u.2.2.2.1 u.2.2.2.2.1 u.2.2.2.2.2) ++ ([(xa_h, .inl (cI, 8, .inl xa))] : va_W))) (fun (r : Int32) (u : (Nat → Int32) × (Nat → Int32) × (Nat → Int32) × (Nat → Int32) × Int32 × Int32) => K r u.1 u.2.1 u.2.2.1 u.2.2.2.1 u.2.2.2.2.1 u.2.2.2.2.2) := by
  intro sz
  refine Met.ofW (cc := cX4_add) (maxL := 6) (ret := (some .int)) (by decide) rfl ?_
  intro p e s m args below meth c s₁ B hml hv
  obtain ⟨rfl, hsz, hP, hK, hD0, hN, hE⟩ := hv
  have hx := B.exec
  have hb := B.bytes
  have hr := B.returns
  have hts := atoms_spec (ws := wsX4_add) B.pre
  have hown : s.vm.findClass RX4 = some m.cls := findClass_of_methodNamed B.named
  have hlocks := B.notSynchronized
  subst hsz
  have hD := hD0.self (sz := s.heap.size)
  generalize hAe : va_A ((wo_X4 cI cZ ru_h ru_ad ru_from ru_voted ru_undone ru_says ru_texts ru_lines) ++ ([(xa_h, .inl (cI, 8, .inl xa))] : va_W)) s.heap.size = A at hD hE ⊢
  have hA : ∀ q : Nat, s.heap.size ≤ q → A q := fun q h => by rw [← hAe]; exact Or.inr h
  have hl := lv_entry ([.ref ru_h, .ref xa_h, .int x2, .int x3, .int x4] : List Value) (n := 6) (Nat.le_of_ble_eq_true rfl)
  rw [lg_entry_eq]
  generalize (lg_sl ([.ref ru_h, .ref xa_h, .int x2, .int x3, .int x4] : List Value) ++ List.replicate (6 - (lg_sl ([.ref ru_h, .ref xa_h, .int x2, .int x3, .int x4] : List Value)).length) Slot.unset).toArray = ls at hl ⊢
  have hl : lv_has ls 6 [(0, .ref ru_h), (1, .ref xa_h), (2, .int x2), (3, .int x3), (4, .int x4)] := hl
  refine mk_absQ (P := fun Q => W p l e _ s m _ below meth c s.heap [] 0 0 Q _) (fun Q hQ => ?_)
  refine mk_absH (P := fun H => W p l e _ s m _ below meth c H [] 0 0 Q _) (fun H hH => ?_)
  have hP : va_P D vwCl ((wo_X4 cI cZ ru_h ru_ad ru_from ru_voted ru_undone ru_says ru_texts ru_lines) ++ ([(xa_h, .inl (cI, 8, .inl xa))] : va_W)) H := by rw [hH]; exact hP
  have hS : va_S A s.heap H [] := by rw [hH]; exact va_S.rf
  refine lv_aload_n hx hb dX4_add_0 rfl (lv_at hl 0 rfl) ?_
  refine va_get (D := D) (ci := 4) (v := .int ru_texts) (C := RX4) (T := TX4) (N := 6) hx hb hts mi_X4_add_X4 hown hK hP 0 rfl rfl 4 (by decide) (hts (.fieldLink RX4 24 "HiringHall$Rules" "texts" "I") (List.mem_of_getElem? (i := 1) rfl)) (fun _ h9 => h9) rfl dX4_add_1 ?_
  refine lv_istore (lv' := [(5, .int ru_texts), (0, .ref ru_h), (1, .ref xa_h), (2, .int x2), (3, .int x3), (4, .int x4)]) hx hb dX4_add_4 hl (by decide) rfl (fun ls hl => ?_)
  refine lv_aload_n hx hb dX4_add_6 rfl (lv_at hl 2 rfl) ?_
  refine lv_iconst (v := 0) hx hb dX4_add_7 (by decide) ?_
  refine lv_aload_n hx hb dX4_add_8 rfl (lv_at hl 1 rfl) ?_
  refine va_get (D := D) (ci := 4) (v := .ref (ru_ad 3)) (C := RX4) (T := TX4) (N := 6) hx hb hts mi_X4_add_X4 hown hK hP 0 rfl rfl 3 (by decide) (hts (.fieldLink RX4 21 "HiringHall$Rules" "says" "[I") (List.mem_of_getElem? (i := 2) rfl)) (fun _ h9 => h9) rfl dX4_add_9 ?_
  refine lv_iload hx hb dX4_add_12 (lv_at hl 0 rfl) ?_
  refine lv_bipush (v := 8) hx hb dX4_add_14 (by decide) ?_
  refine lv_imul hx hb dX4_add_16 ?_
  refine lv_bipush (v := 8) hx hb dX4_add_17 (by decide) ?_
  obtain ⟨ac1, ac2, ac3, ac4, ac5, h⟩ := h
  refine va_copyi hx hb (by rw [hml]; exact hl.1.symm) hown (hts (.methodLink RX4 28 arraycopyName) (by decide +kernel)) (hts (.native arraycopyName) (by decide +kernel)) (hts (.static arraycopyName) (by decide +kernel)) (hts (.initialized "java/lang/System") (by decide +kernel)) hK hP hD hS 5 4 0 0 (ty := .int) rfl rfl rfl rfl rfl ac1 ac2 ac3 ac4 ac5 (fun _ _ => rfl) (Nat.le_of_ble_eq_true rfl) (Nat.le_of_ble_eq_true rfl) dX4_add_19 (fun H locs hP hD hS => ?_)
  have hP : va_P D vwCl ((wo_X4 cI cZ ru_h ru_ad ru_from ru_voted ru_undone (va_cpy xa ru_says ((0 : Int32).toNatClampNeg) ((ru_texts * 8).toNatClampNeg) ((8 : Int32).toNatClampNeg)) ru_texts ru_lines) ++ ([(xa_h, .inl (cI, 8, .inl xa))] : va_W)) H := hP
  have hD : va_D A ((wo_X4 cI cZ ru_h ru_ad ru_from ru_voted ru_undone (va_cpy xa ru_says ((0 : Int32).toNatClampNeg) ((ru_texts * 8).toNatClampNeg) ((8 : Int32).toNatClampNeg)) ru_texts ru_lines) ++ ([(xa_h, .inl (cI, 8, .inl xa))] : va_W)) := hD
  refine lv_aload_n hx hb dX4_add_22 rfl (lv_at hl 1 rfl) ?_
  refine va_get (D := D) (ci := 4) (v := .ref (ru_ad 0)) (C := RX4) (T := TX4) (N := 6) hx hb hts mi_X4_add_X4 hown hK hP 0 rfl rfl 0 (by decide) (hts (.fieldLink RX4 9 "HiringHall$Rules" "from" "[I") (List.mem_of_getElem? (i := 7) rfl)) (fun _ h9 => h9) rfl dX4_add_23 ?_
  refine lv_iload hx hb dX4_add_26 (lv_at hl 0 rfl) ?_
  refine lv_iload_n hx hb dX4_add_28 rfl (lv_at hl 4 rfl) ?_
  obtain ⟨hi_1, h⟩ := h
  refine va_iast hx hb hK hP hD hS 1 0 rfl rfl hi_1 dX4_add_29 (fun H locs hP hD hS => ?_)
  have hP : va_P D vwCl ((wo_X4 cI cZ ru_h ru_ad (upd ru_from (ru_texts.toNatClampNeg) x3) ru_voted ru_undone (va_cpy xa ru_says ((0 : Int32).toNatClampNeg) ((ru_texts * 8).toNatClampNeg) ((8 : Int32).toNatClampNeg)) ru_texts ru_lines) ++ ([(xa_h, .inl (cI, 8, .inl xa))] : va_W)) H := hP
  have hD : va_D A ((wo_X4 cI cZ ru_h ru_ad (upd ru_from (ru_texts.toNatClampNeg) x3) ru_voted ru_undone (va_cpy xa ru_says ((0 : Int32).toNatClampNeg) ((ru_texts * 8).toNatClampNeg) ((8 : Int32).toNatClampNeg)) ru_texts ru_lines) ++ ([(xa_h, .inl (cI, 8, .inl xa))] : va_W)) := hD
  refine lv_aload_n hx hb dX4_add_30 rfl (lv_at hl 1 rfl) ?_
  refine va_get (D := D) (ci := 4) (v := .ref (ru_ad 1)) (C := RX4) (T := TX4) (N := 6) hx hb hts mi_X4_add_X4 hown hK hP 0 rfl rfl 1 (by decide) (hts (.fieldLink RX4 15 "HiringHall$Rules" "voted" "[I") (List.mem_of_getElem? (i := 8) rfl)) (fun _ h9 => h9) rfl dX4_add_31 ?_
  refine lv_iload hx hb dX4_add_34 (lv_at hl 0 rfl) ?_
  refine lv_iload hx hb dX4_add_36 (lv_at hl 5 rfl) ?_
  obtain ⟨hi_2, h⟩ := h
  refine va_iast hx hb hK hP hD hS 2 0 rfl rfl hi_2 dX4_add_38 (fun H locs hP hD hS => ?_)
  have hP : va_P D vwCl ((wo_X4 cI cZ ru_h ru_ad (upd ru_from (ru_texts.toNatClampNeg) x3) (upd ru_voted (ru_texts.toNatClampNeg) x4) ru_undone (va_cpy xa ru_says ((0 : Int32).toNatClampNeg) ((ru_texts * 8).toNatClampNeg) ((8 : Int32).toNatClampNeg)) ru_texts ru_lines) ++ ([(xa_h, .inl (cI, 8, .inl xa))] : va_W)) H := hP
  have hD : va_D A ((wo_X4 cI cZ ru_h ru_ad (upd ru_from (ru_texts.toNatClampNeg) x3) (upd ru_voted (ru_texts.toNatClampNeg) x4) ru_undone (va_cpy xa ru_says ((0 : Int32).toNatClampNeg) ((ru_texts * 8).toNatClampNeg) ((8 : Int32).toNatClampNeg)) ru_texts ru_lines) ++ ([(xa_h, .inl (cI, 8, .inl xa))] : va_W)) := hD
  refine lv_aload_n hx hb dX4_add_39 rfl (lv_at hl 1 rfl) ?_
  refine va_get (D := D) (ci := 4) (v := .ref (ru_ad 2)) (C := RX4) (T := TX4) (N := 6) hx hb hts mi_X4_add_X4 hown hK hP 0 rfl rfl 2 (by decide) (hts (.fieldLink RX4 18 "HiringHall$Rules" "undone" "[I") (List.mem_of_getElem? (i := 9) rfl)) (fun _ h9 => h9) rfl dX4_add_40 ?_
  refine lv_iload hx hb dX4_add_43 (lv_at hl 0 rfl) ?_
  refine lv_iconst (v := (-1)) hx hb dX4_add_45 (by decide) ?_
  obtain ⟨hi_3, h⟩ := h
  refine va_iast hx hb hK hP hD hS 3 0 rfl rfl hi_3 dX4_add_46 (fun H locs hP hD hS => ?_)
  have hP : va_P D vwCl ((wo_X4 cI cZ ru_h ru_ad (upd ru_from (ru_texts.toNatClampNeg) x3) (upd ru_voted (ru_texts.toNatClampNeg) x4) (upd ru_undone (ru_texts.toNatClampNeg) (-1)) (va_cpy xa ru_says ((0 : Int32).toNatClampNeg) ((ru_texts * 8).toNatClampNeg) ((8 : Int32).toNatClampNeg)) ru_texts ru_lines) ++ ([(xa_h, .inl (cI, 8, .inl xa))] : va_W)) H := hP
  have hD : va_D A ((wo_X4 cI cZ ru_h ru_ad (upd ru_from (ru_texts.toNatClampNeg) x3) (upd ru_voted (ru_texts.toNatClampNeg) x4) (upd ru_undone (ru_texts.toNatClampNeg) (-1)) (va_cpy xa ru_says ((0 : Int32).toNatClampNeg) ((ru_texts * 8).toNatClampNeg) ((8 : Int32).toNatClampNeg)) ru_texts ru_lines) ++ ([(xa_h, .inl (cI, 8, .inl xa))] : va_W)) := hD
  refine lv_aload_n hx hb dX4_add_47 rfl (lv_at hl 1 rfl) ?_
  refine lv_dup hx hb dX4_add_48 rfl ?_
  refine va_get (D := D) (ci := 4) (v := .int ru_lines) (C := RX4) (T := TX4) (N := 6) hx hb hts mi_X4_add_X4 hown hK hP 0 rfl rfl 5 (by decide) (hts (.fieldLink RX4 34 "HiringHall$Rules" "lines" "I") (List.mem_of_getElem? (i := 10) rfl)) (fun _ h9 => h9) rfl dX4_add_49 ?_
  refine lv_iload_n hx hb dX4_add_52 rfl (lv_at hl 3 rfl) ?_
  refine lv_iadd hx hb dX4_add_53 ?_
  refine lv_topi (fun y4 e_y4 => ?_)
  have h := h y4 e_y4
  refine va_put (D := D) (ci := 4) (v := .int y4) (ty := .int) (C := RX4) (T := TX4) (N := 6) hx hb hts mi_X4_add_X4 tyX4 tyX4_ok nmX4 hown hK hP hD hS 0 rfl rfl 5 (by decide) (hts (.fieldLink RX4 34 "HiringHall$Rules" "lines" "I") (List.mem_of_getElem? (i := 10) rfl)) (fun _ h9 => h9) rfl (by decide +kernel) rfl rfl (Nat.le_of_ble_eq_true rfl) dX4_add_54 (fun H locs hP hD hS => ?_)
  have hP : va_P D vwCl ((wo_X4 cI cZ ru_h ru_ad (upd ru_from (ru_texts.toNatClampNeg) x3) (upd ru_voted (ru_texts.toNatClampNeg) x4) (upd ru_undone (ru_texts.toNatClampNeg) (-1)) (va_cpy xa ru_says ((0 : Int32).toNatClampNeg) ((ru_texts * 8).toNatClampNeg) ((8 : Int32).toNatClampNeg)) ru_texts y4) ++ ([(xa_h, .inl (cI, 8, .inl xa))] : va_W)) H := hP
  have hD : va_D A ((wo_X4 cI cZ ru_h ru_ad (upd ru_from (ru_texts.toNatClampNeg) x3) (upd ru_voted (ru_texts.toNatClampNeg) x4) (upd ru_undone (ru_texts.toNatClampNeg) (-1)) (va_cpy xa ru_says ((0 : Int32).toNatClampNeg) ((ru_texts * 8).toNatClampNeg) ((8 : Int32).toNatClampNeg)) ru_texts y4) ++ ([(xa_h, .inl (cI, 8, .inl xa))] : va_W)) := hD
  refine lv_aload_n hx hb dX4_add_57 rfl (lv_at hl 1 rfl) ?_
  refine lv_dup hx hb dX4_add_58 rfl ?_
  refine va_get (D := D) (ci := 4) (v := .int ru_texts) (C := RX4) (T := TX4) (N := 6) hx hb hts mi_X4_add_X4 hown hK hP 0 rfl rfl 4 (by decide) (hts (.fieldLink RX4 24 "HiringHall$Rules" "texts" "I") (List.mem_of_getElem? (i := 1) rfl)) (fun _ h9 => h9) rfl dX4_add_59 ?_
  refine lv_iconst (v := 1) hx hb dX4_add_62 (by decide) ?_
  refine lv_iadd hx hb dX4_add_63 ?_
  refine lv_topi (fun y5 e_y5 => ?_)
  have h := h y5 e_y5
  refine va_put (D := D) (ci := 4) (v := .int y5) (ty := .int) (C := RX4) (T := TX4) (N := 6) hx hb hts mi_X4_add_X4 tyX4 tyX4_ok nmX4 hown hK hP hD hS 0 rfl rfl 4 (by decide) (hts (.fieldLink RX4 24 "HiringHall$Rules" "texts" "I") (List.mem_of_getElem? (i := 1) rfl)) (fun _ h9 => h9) rfl (by decide +kernel) rfl rfl (Nat.le_of_ble_eq_true rfl) dX4_add_64 (fun H locs hP hD hS => ?_)
  have hP : va_P D vwCl ((wo_X4 cI cZ ru_h ru_ad (upd ru_from (ru_texts.toNatClampNeg) x3) (upd ru_voted (ru_texts.toNatClampNeg) x4) (upd ru_undone (ru_texts.toNatClampNeg) (-1)) (va_cpy xa ru_says ((0 : Int32).toNatClampNeg) ((ru_texts * 8).toNatClampNeg) ((8 : Int32).toNatClampNeg)) y5 y4) ++ ([(xa_h, .inl (cI, 8, .inl xa))] : va_W)) H := hP
  have hD : va_D A ((wo_X4 cI cZ ru_h ru_ad (upd ru_from (ru_texts.toNatClampNeg) x3) (upd ru_voted (ru_texts.toNatClampNeg) x4) (upd ru_undone (ru_texts.toNatClampNeg) (-1)) (va_cpy xa ru_says ((0 : Int32).toNatClampNeg) ((ru_texts * 8).toNatClampNeg) ((8 : Int32).toNatClampNeg)) y5 y4) ++ ([(xa_h, .inl (cI, 8, .inl xa))] : va_W)) := hD
  refine lv_iload hx hb dX4_add_67 (lv_at hl 0 rfl) ?_
  rw [hQ]
  exact W.iret (v := ru_texts) hx hb hr (fun t ht hW => ⟨⟨ru_texts, ((upd ru_from (ru_texts.toNatClampNeg) x3), (upd ru_voted (ru_texts.toNatClampNeg) x4), (upd ru_undone (ru_texts.toNatClampNeg) (-1)), (va_cpy xa ru_says ((0 : Int32).toNatClampNeg) ((ru_texts * 8).toNatClampNeg) ((8 : Int32).toNatClampNeg)), y5, y4), rfl, h, by rw [ht]; exact hP, va_K.moved hW.alike hK, hD⟩, hS.F ht⟩) hS.2.2 dX4_add_69
def rm_X4_strike : Room := { frames := 0, cells := 0, slots := 0, locals := 0 }
theorem mi_X4_strike_X4 : ∀ w ∈ wsX40, w ∈ wsX4_strike := fun _ h => List.mem_cons_of_mem _ (List.mem_append_right _ h)
set_option maxHeartbeats 4000000 in
set_option maxRecDepth 100000 in
theorem c_X4_strike (l : Launch) (D : va_G) (cI cZ : ClassId) (E : (Nat → Nat) × (Nat → Nat)) (ru_h : Nat) (ru_ad : Nat → Nat) (ru_from : (Nat → Int32)) (ru_voted : (Nat → Int32)) (ru_undone : (Nat → Int32)) (ru_says : (Nat → Int32)) (ru_texts : Int32) (ru_lines : Int32) (x1 : Int32) (x2 : Int32) (K : (Int32 → (Nat → Int32) → Prop)) (h : wp_X4_strike ru_undone x1 x2 K) : mk_Ci l D cI cZ E yX4_strike wsX4_strike rm_X4_strike ([.ref ru_h, .int x1, .int x2] : List Value) (wo_X4 cI cZ ru_h ru_ad ru_from ru_voted ru_undone ru_says ru_texts ru_lines) (fun (u : (Nat → Int32)) => (wo_X4 cI cZ ru_h ru_ad ru_from ru_voted u ru_says ru_texts ru_lines)) (fun (r : Int32) (u : (Nat → Int32)) => K r u) := by
  intro sz
  refine Met.ofW (cc := cX4_strike) (maxL := 3) (ret := (some .boolean)) (by decide) rfl ?_
  intro p e s m args below meth c s₁ B hml hv
  obtain ⟨rfl, hsz, hP, hK, hD0, hN, hE⟩ := hv
  have hx := B.exec
  have hb := B.bytes
  have hr := B.returns
  have hts := atoms_spec (ws := wsX4_strike) B.pre
  have hown : s.vm.findClass RX4 = some m.cls := findClass_of_methodNamed B.named
  have hlocks := B.notSynchronized
  subst hsz
  have hD := hD0.self (sz := s.heap.size)
  generalize hAe : va_A (wo_X4 cI cZ ru_h ru_ad ru_from ru_voted ru_undone ru_says ru_texts ru_lines) s.heap.size = A at hD hE ⊢
  have hA : ∀ q : Nat, s.heap.size ≤ q → A q := fun q h => by rw [← hAe]; exact Or.inr h
  have hl := lv_entry ([.ref ru_h, .int x1, .int x2] : List Value) (n := 3) (Nat.le_of_ble_eq_true rfl)
  rw [lg_entry_eq]
  generalize (lg_sl ([.ref ru_h, .int x1, .int x2] : List Value) ++ List.replicate (3 - (lg_sl ([.ref ru_h, .int x1, .int x2] : List Value)).length) Slot.unset).toArray = ls at hl ⊢
  have hl : lv_has ls 3 [(0, .ref ru_h), (1, .int x1), (2, .int x2)] := hl
  refine mk_absQ (P := fun Q => W p l e _ s m _ below meth c s.heap [] 0 0 Q _) (fun Q hQ => ?_)
  refine mk_absH (P := fun H => W p l e _ s m _ below meth c H [] 0 0 Q _) (fun H hH => ?_)
  have hP : va_P D vwCl (wo_X4 cI cZ ru_h ru_ad ru_from ru_voted ru_undone ru_says ru_texts ru_lines) H := by rw [hH]; exact hP
  have hS : va_S A s.heap H [] := by rw [hH]; exact va_S.rf
  refine lv_aload_n hx hb dX4_strike_0 rfl (lv_at hl 0 rfl) ?_
  refine va_get (D := D) (ci := 4) (v := .ref (ru_ad 2)) (C := RX4) (T := TX4) (N := 6) hx hb hts mi_X4_strike_X4 hown hK hP 0 rfl rfl 2 (by decide) (hts (.fieldLink RX4 18 "HiringHall$Rules" "undone" "[I") (List.mem_of_getElem? (i := 1) rfl)) (fun _ h9 => h9) rfl dX4_strike_1 ?_
  refine lv_iload_n hx hb dX4_strike_4 rfl (lv_at hl 1 rfl) ?_
  obtain ⟨hi_1, h⟩ := h
  refine va_iald hx hb hK hP 3 0 rfl rfl hi_1 dX4_strike_5 ?_
  refine lv_iconst (v := (-1)) hx hb dX4_strike_6 (by decide) ?_
  refine lv_icmp_eq (tgt := 12) hx hb dX4_strike_7 (by decide) (fun c_2 => ?_) (fun c_2 => ?_)
  · have h := h.1 c_2
    refine lv_aload_n hx hb dX4_strike_12 rfl (lv_at hl 0 rfl) ?_
    refine va_get (D := D) (ci := 4) (v := .ref (ru_ad 2)) (C := RX4) (T := TX4) (N := 6) hx hb hts mi_X4_strike_X4 hown hK hP 0 rfl rfl 2 (by decide) (hts (.fieldLink RX4 18 "HiringHall$Rules" "undone" "[I") (List.mem_of_getElem? (i := 1) rfl)) (fun _ h9 => h9) rfl dX4_strike_13 ?_
    refine lv_iload_n hx hb dX4_strike_16 rfl (lv_at hl 1 rfl) ?_
    refine lv_iload_n hx hb dX4_strike_17 rfl (lv_at hl 2 rfl) ?_
    obtain ⟨hi_3, h⟩ := h
    refine va_iast hx hb hK hP hD hS 3 0 rfl rfl hi_3 dX4_strike_18 (fun H locs hP hD hS => ?_)
    have hP : va_P D vwCl (wo_X4 cI cZ ru_h ru_ad ru_from ru_voted (upd ru_undone (x1.toNatClampNeg) x2) ru_says ru_texts ru_lines) H := hP
    have hD : va_D A (wo_X4 cI cZ ru_h ru_ad ru_from ru_voted (upd ru_undone (x1.toNatClampNeg) x2) ru_says ru_texts ru_lines) := hD
    refine lv_iconst (v := 1) hx hb dX4_strike_19 (by decide) ?_
    rw [hQ]
    exact W.zret (v := 1) hx hb hr rfl (fun t ht hW => ⟨⟨1, ((upd ru_undone (x1.toNatClampNeg) x2)), rfl, h, by rw [ht]; exact hP, va_K.moved hW.alike hK, hD⟩, hS.F ht⟩) hS.2.2 dX4_strike_20
  · have h := h.2 c_2
    refine lv_iconst (v := 0) hx hb dX4_strike_10 (by decide) ?_
    rw [hQ]
    exact W.zret (v := 0) hx hb hr rfl (fun t ht hW => ⟨⟨0, (ru_undone), rfl, h, by rw [ht]; exact hP, va_K.moved hW.alike hK, hD⟩, hS.F ht⟩) hS.2.2 dX4_strike_11
