def rm_X3_isBlank : Room := { frames := 0, cells := 0, slots := 0, locals := 0 }
set_option maxHeartbeats 4000000 in
set_option maxRecDepth 100000 in
theorem c_X3_isBlank (l : Launch) (D : va_G) (cI cZ : ClassId) (E : (Nat → Nat) × (Nat → Nat))   (x0 : Int32) (K : (Int32 → Prop)) (h : wp_X3_isBlank  x0 K) : mk_Ci l D cI cZ E yX3_isBlank wsX3_isBlank rm_X3_isBlank ([.int x0] : List Value) ([] : va_W) (fun (u : Unit) => ([] : va_W)) (fun (r : Int32) (u : Unit) => K r) := by
  intro sz
  refine Met.ofW (cc := cX3_isBlank) (maxL := 1) (ret := (some .boolean)) (by decide) rfl ?_
  intro p e s m args below meth c s₁ B hml hv
  obtain ⟨rfl, hsz, hP, hK, hD0, hN, hE⟩ := hv
  have hx := B.exec
  have hb := B.bytes
  have hr := B.returns
  have hts := atoms_spec (ws := wsX3_isBlank) B.pre
  have hown : s.vm.findClass RX3 = some m.cls := findClass_of_methodNamed B.named
  have hlocks := B.notSynchronized
  subst hsz
  have hD := hD0.self (sz := s.heap.size)
  generalize hAe : va_A ([] : va_W) s.heap.size = A at hD hE ⊢
  have hA : ∀ q : Nat, s.heap.size ≤ q → A q := fun q h => by rw [← hAe]; exact Or.inr h
  have hl := lv_entry ([.int x0] : List Value) (n := 1) (Nat.le_of_ble_eq_true rfl)
  rw [lg_entry_eq]
  generalize (lg_sl ([.int x0] : List Value) ++ List.replicate (1 - (lg_sl ([.int x0] : List Value)).length) Slot.unset).toArray = ls at hl ⊢
  have hl : lv_has ls 1 [(0, .int x0)] := hl
  refine mk_absQ (P := fun Q => W p l e _ s m _ below meth c s.heap [] 0 0 Q _) (fun Q hQ => ?_)
  refine mk_absH (P := fun H => W p l e _ s m _ below meth c H [] 0 0 Q _) (fun H hH => ?_)
  have hP : va_P D vwCl ([] : va_W) H := by rw [hH]; exact hP
  have hS : va_S A s.heap H [] := by rw [hH]; exact va_S.rf
  refine lv_iload_n hx hb dX3_isBlank_0 rfl (lv_at hl 0 rfl) ?_
  refine lv_bipush (v := 10) hx hb dX3_isBlank_1 (by decide) ?_
  refine lv_icmp_eq (tgt := 12) hx hb dX3_isBlank_3 (by decide) (fun c_1 => ?_) (fun c_1 => ?_)
  · have h := h.1 c_1
    refine lv_iconst (v := 1) hx hb dX3_isBlank_12 (by decide) ?_
    refine lv_goto (tgt := 17) hx hb dX3_isBlank_13 (by decide) ?_
    rw [hQ]
    exact W.zret (v := 1) hx hb hr rfl (fun t ht hW => ⟨⟨1, (), rfl, h, by rw [ht]; exact hP, va_K.moved hW.alike hK, hD⟩, hS.F ht⟩) hS.2.2 dX3_isBlank_17
  · have h := h.2 c_1
    refine lv_iload_n hx hb dX3_isBlank_6 rfl (lv_at hl 0 rfl) ?_
    refine lv_bipush (v := 32) hx hb dX3_isBlank_7 (by decide) ?_
    refine lv_icmp_ne (tgt := 16) hx hb dX3_isBlank_9 (by decide) (fun c_2 => ?_) (fun c_2 => ?_)
    · have h := h.1 c_2
      refine lv_iconst (v := 0) hx hb dX3_isBlank_16 (by decide) ?_
      rw [hQ]
      exact W.zret (v := 0) hx hb hr rfl (fun t ht hW => ⟨⟨0, (), rfl, h, by rw [ht]; exact hP, va_K.moved hW.alike hK, hD⟩, hS.F ht⟩) hS.2.2 dX3_isBlank_17
    · have h := h.2 c_2
      refine lv_iconst (v := 1) hx hb dX3_isBlank_12 (by decide) ?_
      refine lv_goto (tgt := 17) hx hb dX3_isBlank_13 (by decide) ?_
      rw [hQ]
      exact W.zret (v := 1) hx hb hr rfl (fun t ht hW => ⟨⟨1, (), rfl, h, by rw [ht]; exact hP, va_K.moved hW.alike hK, hD⟩, hS.F ht⟩) hS.2.2 dX3_isBlank_17
def rm_X3_isLetter : Room := { frames := 0, cells := 0, slots := 0, locals := 0 }
set_option maxHeartbeats 4000000 in
set_option maxRecDepth 100000 in
theorem c_X3_isLetter (l : Launch) (D : va_G) (cI cZ : ClassId) (E : (Nat → Nat) × (Nat → Nat))   (x0 : Int32) (K : (Int32 → Prop)) (h : wp_X3_isLetter  x0 K) : mk_Ci l D cI cZ E yX3_isLetter wsX3_isLetter rm_X3_isLetter ([.int x0] : List Value) ([] : va_W) (fun (u : Unit) => ([] : va_W)) (fun (r : Int32) (u : Unit) => K r) := by
  intro sz
  refine Met.ofW (cc := cX3_isLetter) (maxL := 1) (ret := (some .boolean)) (by decide) rfl ?_
  intro p e s m args below meth c s₁ B hml hv
  obtain ⟨rfl, hsz, hP, hK, hD0, hN, hE⟩ := hv
  have hx := B.exec
  have hb := B.bytes
  have hr := B.returns
  have hts := atoms_spec (ws := wsX3_isLetter) B.pre
  have hown : s.vm.findClass RX3 = some m.cls := findClass_of_methodNamed B.named
  have hlocks := B.notSynchronized
  subst hsz
  have hD := hD0.self (sz := s.heap.size)
  generalize hAe : va_A ([] : va_W) s.heap.size = A at hD hE ⊢
  have hA : ∀ q : Nat, s.heap.size ≤ q → A q := fun q h => by rw [← hAe]; exact Or.inr h
  have hl := lv_entry ([.int x0] : List Value) (n := 1) (Nat.le_of_ble_eq_true rfl)
  rw [lg_entry_eq]
  generalize (lg_sl ([.int x0] : List Value) ++ List.replicate (1 - (lg_sl ([.int x0] : List Value)).length) Slot.unset).toArray = ls at hl ⊢
  have hl : lv_has ls 1 [(0, .int x0)] := hl
  refine mk_absQ (P := fun Q => W p l e _ s m _ below meth c s.heap [] 0 0 Q _) (fun Q hQ => ?_)
  refine mk_absH (P := fun H => W p l e _ s m _ below meth c H [] 0 0 Q _) (fun H hH => ?_)
  have hP : va_P D vwCl ([] : va_W) H := by rw [hH]; exact hP
  have hS : va_S A s.heap H [] := by rw [hH]; exact va_S.rf
  refine lv_iload_n hx hb dX3_isLetter_0 rfl (lv_at hl 0 rfl) ?_
  refine lv_bipush (v := 97) hx hb dX3_isLetter_1 (by decide) ?_
  refine lv_icmp_lt (tgt := 16) hx hb dX3_isLetter_3 (by decide) (fun c_1 => ?_) (fun c_1 => ?_)
  · have h := h.1 c_1
    refine lv_iconst (v := 0) hx hb dX3_isLetter_16 (by decide) ?_
    rw [hQ]
    exact W.zret (v := 0) hx hb hr rfl (fun t ht hW => ⟨⟨0, (), rfl, h, by rw [ht]; exact hP, va_K.moved hW.alike hK, hD⟩, hS.F ht⟩) hS.2.2 dX3_isLetter_17
  · have h := h.2 c_1
    refine lv_iload_n hx hb dX3_isLetter_6 rfl (lv_at hl 0 rfl) ?_
    refine lv_bipush (v := 122) hx hb dX3_isLetter_7 (by decide) ?_
    refine lv_icmp_gt (tgt := 16) hx hb dX3_isLetter_9 (by decide) (fun c_2 => ?_) (fun c_2 => ?_)
    · have h := h.1 c_2
      refine lv_iconst (v := 0) hx hb dX3_isLetter_16 (by decide) ?_
      rw [hQ]
      exact W.zret (v := 0) hx hb hr rfl (fun t ht hW => ⟨⟨0, (), rfl, h, by rw [ht]; exact hP, va_K.moved hW.alike hK, hD⟩, hS.F ht⟩) hS.2.2 dX3_isLetter_17
    · have h := h.2 c_2
      refine lv_iconst (v := 1) hx hb dX3_isLetter_12 (by decide) ?_
      refine lv_goto (tgt := 17) hx hb dX3_isLetter_13 (by decide) ?_
      rw [hQ]
      exact W.zret (v := 1) hx hb hr rfl (fun t ht hW => ⟨⟨1, (), rfl, h, by rw [ht]; exact hP, va_K.moved hW.alike hK, hD⟩, hS.F ht⟩) hS.2.2 dX3_isLetter_17
def rm_X3_isToken : Room := { frames := 4, cells := 0, slots := 0, locals := 85 }
theorem mi_X3_isToken_X3 : ∀ w ∈ wsX30, w ∈ wsX3_isToken := fun _ h => List.mem_cons_of_mem _ (List.mem_append_left _ (List.mem_append_right _ h))
set_option maxHeartbeats 4000000 in
set_option maxRecDepth 100000 in
theorem c_X3_isToken (l : Launch) (D : va_G) (cI cZ : ClassId) (E : (Nat → Nat) × (Nat → Nat)) (rd_h : Nat) (rd_ad : Nat → Nat) (tp_h : Nat) (tp_ad : Nat → Nat) (rd_says : (Nat → Int32)) (rd_lines : Int32) (rd_fault : Int32) (rd_faultPlace : Int32) (rd_length : Int32) (rd_place : Int32) (rd_kind : Int32) (rd_start : Int32) (rd_value : Int32) (tp_words : (Nat → Int32)) (tp_length : Int32)  (s1 : Nat) (K : (Int32 → Prop)) (h : wp_X3_isToken rd_place rd_start tp_words tp_length  s1 K) : mk_Ci l D cI cZ E yX3_isToken wsX3_isToken rm_X3_isToken ([.ref rd_h, .ref (E.1 s1)] : List Value) ((wo_X3 cI cZ rd_h rd_ad tp_h rd_says rd_lines rd_fault rd_faultPlace rd_length rd_place rd_kind rd_start rd_value) ++ (wo_X6 cI cZ tp_h tp_ad tp_words tp_length)) (fun (u : Unit) => ((wo_X3 cI cZ rd_h rd_ad tp_h rd_says rd_lines rd_fault rd_faultPlace rd_length rd_place rd_kind rd_start rd_value) ++ (wo_X6 cI cZ tp_h tp_ad tp_words tp_length))) (fun (r : Int32) (u : Unit) => K r) := by
  intro sz
  refine Met.ofW (cc := cX3_isToken) (maxL := 3) (ret := (some .boolean)) (by decide) rfl ?_
  intro p e s m args below meth c s₁ B hml hv
  obtain ⟨rfl, hsz, hP, hK, hD0, hN, hE⟩ := hv
  have hx := B.exec
  have hb := B.bytes
  have hr := B.returns
  have hts := atoms_spec (ws := wsX3_isToken) B.pre
  have hown : s.vm.findClass RX3 = some m.cls := findClass_of_methodNamed B.named
  have hlocks := B.notSynchronized
  subst hsz
  have hD := hD0.self (sz := s.heap.size)
  generalize hAe : va_A ((wo_X3 cI cZ rd_h rd_ad tp_h rd_says rd_lines rd_fault rd_faultPlace rd_length rd_place rd_kind rd_start rd_value) ++ (wo_X6 cI cZ tp_h tp_ad tp_words tp_length)) s.heap.size = A at hD hE ⊢
  have hA : ∀ q : Nat, s.heap.size ≤ q → A q := fun q h => by rw [← hAe]; exact Or.inr h
  have hl := lv_entry ([.ref rd_h, .ref (E.1 s1)] : List Value) (n := 3) (Nat.le_of_ble_eq_true rfl)
  rw [lg_entry_eq]
  generalize (lg_sl ([.ref rd_h, .ref (E.1 s1)] : List Value) ++ List.replicate (3 - (lg_sl ([.ref rd_h, .ref (E.1 s1)] : List Value)).length) Slot.unset).toArray = ls at hl ⊢
  have hl : lv_has ls 3 [(0, .ref rd_h), (1, .ref (E.1 s1))] := hl
  refine mk_absQ (P := fun Q => W p l e _ s m _ below meth c s.heap [] 0 0 Q _) (fun Q hQ => ?_)
  refine mk_absH (P := fun H => W p l e _ s m _ below meth c H [] 0 0 Q _) (fun H hH => ?_)
  have hP : va_P D vwCl ((wo_X3 cI cZ rd_h rd_ad tp_h rd_says rd_lines rd_fault rd_faultPlace rd_length rd_place rd_kind rd_start rd_value) ++ (wo_X6 cI cZ tp_h tp_ad tp_words tp_length)) H := by rw [hH]; exact hP
  have hS : va_S A s.heap H [] := by rw [hH]; exact va_S.rf
  have b20 : ∀ (n : Nat), ∀ (x2 : Int32), wp_X3_isToken_b20 K rd_start tp_words tp_length s1 n x2 → ∀ (H : Heap) (locs : List Loc) (ls : Array Slot), va_P D vwCl ((wo_X3 cI cZ rd_h rd_ad tp_h rd_says rd_lines rd_fault rd_faultPlace rd_length rd_place rd_kind rd_start rd_value) ++ (wo_X6 cI cZ tp_h tp_ad tp_words tp_length)) H → va_D A ((wo_X3 cI cZ rd_h rd_ad tp_h rd_says rd_lines rd_fault rd_faultPlace rd_length rd_place rd_kind rd_start rd_value) ++ (wo_X6 cI cZ tp_h tp_ad tp_words tp_length)) → va_S A s.heap H locs → lv_has ls 3 [(0, .ref rd_h), (1, .ref (E.1 s1)), (2, .int x2)] → W p l e (headSpec wsX3_isToken rm_X3_isToken).room s m ([.ref rd_h, .ref (E.1 s1)] : List Value).toArray below meth c H locs 0 0 Q (F0 m 20 ls []) := by
    intro n
    induction n with
    | zero => intro x2 h; exact False.elim h
    | succ n ih =>
      intro x2 h H locs ls hP hD hS hl
      refine lv_iload_n hx hb dX3_isToken_20 rfl (lv_at hl 2 rfl) ?_
      refine lv_aload_n hx hb dX3_isToken_21 rfl (lv_at hl 1 rfl) ?_
      obtain ⟨hs7, h⟩ := h
      have hP : va_P D vwCl ((fun v => v ++ ((wo_X3 cI cZ rd_h rd_ad tp_h rd_says rd_lines rd_fault rd_faultPlace rd_length rd_place rd_kind rd_start rd_value) ++ (wo_X6 cI cZ tp_h tp_ad tp_words tp_length))) []) H := hP
      have hD : va_D A ((fun v => v ++ ((wo_X3 cI cZ rd_h rd_ad tp_h rd_says rd_lines rd_fault rd_faultPlace rd_length rd_place rd_kind rd_start rd_value) ++ (wo_X6 cI cZ tp_h tp_ad tp_words tp_length))) []) := hD
      refine mk_ci (f := fun v => v ++ ((wo_X3 cI cZ rd_h rd_ad tp_h rd_says rd_lines rd_fault rd_faultPlace rd_length rd_place rd_kind rd_start rd_value) ++ (wo_X6 cI cZ tp_h tp_ad tp_words tp_length))) (mk_fr_hd _) (va_runV (As := []) (rest := [.int x2]) ⟨hx, hb, hml, hown, hts⟩ (c_strlen l D cI cZ E s1 hs7 H.size) (cwV 0 hts gX3_isToken_J0_length_8abf5 rfl rfl rfl (by decide +kernel) ⟨Nat.le_of_ble_eq_true rfl, Nat.le_of_ble_eq_true rfl⟩) (mk_preR (mk_fr_hd _) hK hN hE hS hA hP hD hs7) rfl rfl hl.1 rfl (lv_room (Nat.le_of_ble_eq_true rfl)) dX3_isToken_22 ⟨Nat.le_of_ble_eq_true rfl, Nat.le_of_ble_eq_true rfl⟩) hP hD hS hA (fun r1 u H locs hu hP hD hS => ?_)
      subst hu
      have hP : va_P D vwCl ((wo_X3 cI cZ rd_h rd_ad tp_h rd_says rd_lines rd_fault rd_faultPlace rd_length rd_place rd_kind rd_start rd_value) ++ (wo_X6 cI cZ tp_h tp_ad tp_words tp_length)) H := hP
      have hD : va_D A ((wo_X3 cI cZ rd_h rd_ad tp_h rd_says rd_lines rd_fault rd_faultPlace rd_length rd_place rd_kind rd_start rd_value) ++ (wo_X6 cI cZ tp_h tp_ad tp_words tp_length)) := hD
      refine lv_icmp_ge (tgt := 57) hx hb dX3_isToken_25 (by decide) (fun c_2 => ?_) (fun c_2 => ?_)
      · have h := h.1 c_2
        refine lv_iconst (v := 1) hx hb dX3_isToken_57 (by decide) ?_
        rw [hQ]
        exact W.zret (v := 1) hx hb hr rfl (fun t ht hW => ⟨⟨1, (), rfl, h, by rw [ht]; exact hP, va_K.moved hW.alike hK, hD⟩, hS.F ht⟩) hS.2.2 dX3_isToken_58
      · have h := h.2 c_2
        refine lv_aload_n hx hb dX3_isToken_28 rfl (lv_at hl 0 rfl) ?_
        refine va_get (D := D) (ci := 3) (v := .ref tp_h) (C := RX3) (T := TX3) (N := 10) hx hb hts mi_X3_isToken_X3 hown hK hP 0 rfl rfl 0 (by decide) (hts (.fieldLink RX3 22 "HiringHall$Reader" "tape" "LHiringHall$Tape;") (List.mem_of_getElem? (i := 3) rfl)) (fun _ h9 => h9) rfl dX3_isToken_29 ?_
        refine lv_aload_n hx hb dX3_isToken_32 rfl (lv_at hl 0 rfl) ?_
        refine va_get (D := D) (ci := 3) (v := .int rd_start) (C := RX3) (T := TX3) (N := 10) hx hb hts mi_X3_isToken_X3 hown hK hP 0 rfl rfl 8 (by decide) (hts (.fieldLink RX3 50 "HiringHall$Reader" "start" "I") (List.mem_of_getElem? (i := 2) rfl)) (fun _ h9 => h9) rfl dX3_isToken_33 ?_
        refine lv_iload_n hx hb dX3_isToken_36 rfl (lv_at hl 2 rfl) ?_
        refine lv_iadd hx hb dX3_isToken_37 ?_
        have hP : va_P D vwCl ((fun v => (wo_X3 cI cZ rd_h rd_ad tp_h rd_says rd_lines rd_fault rd_faultPlace rd_length rd_place rd_kind rd_start rd_value) ++ v) (wo_X6 cI cZ tp_h tp_ad tp_words tp_length)) H := hP
        have hD : va_D A ((fun v => (wo_X3 cI cZ rd_h rd_ad tp_h rd_says rd_lines rd_fault rd_faultPlace rd_length rd_place rd_kind rd_start rd_value) ++ v) (wo_X6 cI cZ tp_h tp_ad tp_words tp_length)) := hD
        refine mk_ci (f := fun v => (wo_X3 cI cZ rd_h rd_ad tp_h rd_says rd_lines rd_fault rd_faultPlace rd_length rd_place rd_kind rd_start rd_value) ++ v) (mk_fr_end _) (va_runVN (As := [.int (rd_start + x2)]) (rest := []) ⟨hx, hb, hml, hown, hts⟩ (c_X6_byteAt l D cI cZ E tp_h tp_ad tp_words tp_length (rd_start + x2) _ h H.size) ⟨va_cnB 1 hts gX3_isToken_X6_byteAt_n71 rfl rfl rfl (hN.2 (RX3, 71, yX6_byteAt, RX7) (List.mem_of_getElem? (i := 10) rfl)) (hts (.initialized RX6) (List.mem_of_getElem? (i := 17) rfl)) (by decide +kernel) ⟨Nat.le_of_ble_eq_true rfl, Nat.le_of_ble_eq_true rfl⟩, hts (.instanceMethod yX6_byteAt) (List.mem_of_getElem? (i := 16) rfl), hts (.selects RX6 yX6_byteAt yX6_byteAt) (List.mem_of_getElem? (i := 18) rfl)⟩ (mk_preV (ci := 6) (mk_fr_end _) hK hN hE hS hA hP hD rfl rfl) rfl rfl hl.1 rfl (lv_room (Nat.le_of_ble_eq_true rfl)) dX3_isToken_38 ⟨Nat.le_of_ble_eq_true rfl, Nat.le_of_ble_eq_true rfl⟩) hP hD hS hA (fun r3 u H locs h hP hD hS => ?_)
        try dsimp only at h
        have hP : va_P D vwCl ((wo_X3 cI cZ rd_h rd_ad tp_h rd_says rd_lines rd_fault rd_faultPlace rd_length rd_place rd_kind rd_start rd_value) ++ (wo_X6 cI cZ tp_h tp_ad tp_words tp_length)) H := hP
        have hD : va_D A ((wo_X3 cI cZ rd_h rd_ad tp_h rd_says rd_lines rd_fault rd_faultPlace rd_length rd_place rd_kind rd_start rd_value) ++ (wo_X6 cI cZ tp_h tp_ad tp_words tp_length)) := hD
        refine lv_aload_n hx hb dX3_isToken_41 rfl (lv_at hl 1 rfl) ?_
        refine lv_iload_n hx hb dX3_isToken_42 rfl (lv_at hl 2 rfl) ?_
        obtain ⟨hs7, h⟩ := h
        obtain ⟨hk7, h⟩ := h
        have hP : va_P D vwCl ((fun v => v ++ ((wo_X3 cI cZ rd_h rd_ad tp_h rd_says rd_lines rd_fault rd_faultPlace rd_length rd_place rd_kind rd_start rd_value) ++ (wo_X6 cI cZ tp_h tp_ad tp_words tp_length))) []) H := hP
        have hD : va_D A ((fun v => v ++ ((wo_X3 cI cZ rd_h rd_ad tp_h rd_says rd_lines rd_fault rd_faultPlace rd_length rd_place rd_kind rd_start rd_value) ++ (wo_X6 cI cZ tp_h tp_ad tp_words tp_length))) []) := hD
        refine mk_ci (f := fun v => v ++ ((wo_X3 cI cZ rd_h rd_ad tp_h rd_says rd_lines rd_fault rd_faultPlace rd_length rd_place rd_kind rd_start rd_value) ++ (wo_X6 cI cZ tp_h tp_ad tp_words tp_length))) (mk_fr_hd _) (va_runV (As := [.int x2]) (rest := [.int r3]) ⟨hx, hb, hml, hown, hts⟩ (c_charAt l D cI cZ E s1 hs7 x2 hk7 H.size) (cwV 1 hts gX3_isToken_J0_charAt_5068e rfl rfl rfl (by decide +kernel) ⟨Nat.le_of_ble_eq_true rfl, Nat.le_of_ble_eq_true rfl⟩) (mk_preR (mk_fr_hd _) hK hN hE hS hA hP hD hs7) rfl rfl hl.1 rfl (lv_room (Nat.le_of_ble_eq_true rfl)) dX3_isToken_43 ⟨Nat.le_of_ble_eq_true rfl, Nat.le_of_ble_eq_true rfl⟩) hP hD hS hA (fun r4 u H locs hu hP hD hS => ?_)
        subst hu
        have hP : va_P D vwCl ((wo_X3 cI cZ rd_h rd_ad tp_h rd_says rd_lines rd_fault rd_faultPlace rd_length rd_place rd_kind rd_start rd_value) ++ (wo_X6 cI cZ tp_h tp_ad tp_words tp_length)) H := hP
        have hD : va_D A ((wo_X3 cI cZ rd_h rd_ad tp_h rd_says rd_lines rd_fault rd_faultPlace rd_length rd_place rd_kind rd_start rd_value) ++ (wo_X6 cI cZ tp_h tp_ad tp_words tp_length)) := hD
        refine lv_icmp_eq (tgt := 51) hx hb dX3_isToken_46 (by decide) (fun c_5 => ?_) (fun c_5 => ?_)
        · have h := h.1 c_5
          obtain ⟨y6, e_y6⟩ : ∃ y : Int32, y = x2 + 1 := ⟨_, rfl⟩
          have h := h y6 e_y6
          refine lv_iinc (v := y6) (lv' := [(2, .int y6), (0, .ref rd_h), (1, .ref (E.1 s1))]) hx hb dX3_isToken_51 hl (k := 2) rfl (by rw [e_y6]; rfl) (by decide) rfl (fun ls hl => ?_)
          refine lv_goto (tgt := 20) hx hb dX3_isToken_54 (by decide) ?_
          exact ih y6 h _ _ _ hP hD hS (lv_sub hl [1, 2, 0] rfl)
        · have h := h.2 c_5
          refine lv_iconst (v := 0) hx hb dX3_isToken_49 (by decide) ?_
          rw [hQ]
          exact W.zret (v := 0) hx hb hr rfl (fun t ht hW => ⟨⟨0, (), rfl, h, by rw [ht]; exact hP, va_K.moved hW.alike hK, hD⟩, hS.F ht⟩) hS.2.2 dX3_isToken_50
  refine lv_aload_n hx hb dX3_isToken_0 rfl (lv_at hl 0 rfl) ?_
  refine va_get (D := D) (ci := 3) (v := .int rd_place) (C := RX3) (T := TX3) (N := 10) hx hb hts mi_X3_isToken_X3 hown hK hP 0 rfl rfl 6 (by decide) (hts (.fieldLink RX3 38 "HiringHall$Reader" "place" "I") (List.mem_of_getElem? (i := 1) rfl)) (fun _ h9 => h9) rfl dX3_isToken_1 ?_
  refine lv_aload_n hx hb dX3_isToken_4 rfl (lv_at hl 0 rfl) ?_
  refine va_get (D := D) (ci := 3) (v := .int rd_start) (C := RX3) (T := TX3) (N := 10) hx hb hts mi_X3_isToken_X3 hown hK hP 0 rfl rfl 8 (by decide) (hts (.fieldLink RX3 50 "HiringHall$Reader" "start" "I") (List.mem_of_getElem? (i := 2) rfl)) (fun _ h9 => h9) rfl dX3_isToken_5 ?_
  refine lv_isub hx hb dX3_isToken_8 ?_
  refine lv_aload_n hx hb dX3_isToken_9 rfl (lv_at hl 1 rfl) ?_
  obtain ⟨hs7, h⟩ := h
  have hP : va_P D vwCl ((fun v => v ++ ((wo_X3 cI cZ rd_h rd_ad tp_h rd_says rd_lines rd_fault rd_faultPlace rd_length rd_place rd_kind rd_start rd_value) ++ (wo_X6 cI cZ tp_h tp_ad tp_words tp_length))) []) H := hP
  have hD : va_D A ((fun v => v ++ ((wo_X3 cI cZ rd_h rd_ad tp_h rd_says rd_lines rd_fault rd_faultPlace rd_length rd_place rd_kind rd_start rd_value) ++ (wo_X6 cI cZ tp_h tp_ad tp_words tp_length))) []) := hD
  refine mk_ci (f := fun v => v ++ ((wo_X3 cI cZ rd_h rd_ad tp_h rd_says rd_lines rd_fault rd_faultPlace rd_length rd_place rd_kind rd_start rd_value) ++ (wo_X6 cI cZ tp_h tp_ad tp_words tp_length))) (mk_fr_hd _) (va_runV (As := []) (rest := [.int (rd_place - rd_start)]) ⟨hx, hb, hml, hown, hts⟩ (c_strlen l D cI cZ E s1 hs7 H.size) (cwV 0 hts gX3_isToken_J0_length_8abf5 rfl rfl rfl (by decide +kernel) ⟨Nat.le_of_ble_eq_true rfl, Nat.le_of_ble_eq_true rfl⟩) (mk_preR (mk_fr_hd _) hK hN hE hS hA hP hD hs7) rfl rfl hl.1 rfl (lv_room (Nat.le_of_ble_eq_true rfl)) dX3_isToken_10 ⟨Nat.le_of_ble_eq_true rfl, Nat.le_of_ble_eq_true rfl⟩) hP hD hS hA (fun r7 u H locs hu hP hD hS => ?_)
  subst hu
  have hP : va_P D vwCl ((wo_X3 cI cZ rd_h rd_ad tp_h rd_says rd_lines rd_fault rd_faultPlace rd_length rd_place rd_kind rd_start rd_value) ++ (wo_X6 cI cZ tp_h tp_ad tp_words tp_length)) H := hP
  have hD : va_D A ((wo_X3 cI cZ rd_h rd_ad tp_h rd_says rd_lines rd_fault rd_faultPlace rd_length rd_place rd_kind rd_start rd_value) ++ (wo_X6 cI cZ tp_h tp_ad tp_words tp_length)) := hD
  refine lv_icmp_eq (tgt := 18) hx hb dX3_isToken_13 (by decide) (fun c_8 => ?_) (fun c_8 => ?_)
  · have h := h.1 c_8
    refine lv_iconst (v := 0) hx hb dX3_isToken_18 (by decide) ?_
    refine lv_istore_n (lv' := [(2, .int 0), (0, .ref rd_h), (1, .ref (E.1 s1))]) hx hb dX3_isToken_19 rfl hl (by decide) rfl (fun ls hl => ?_)
    obtain ⟨n, h⟩ := h
    exact b20  n 0 h _ _ _ hP hD hS (lv_sub hl [1, 2, 0] rfl)
  · have h := h.2 c_8
    refine lv_iconst (v := 0) hx hb dX3_isToken_16 (by decide) ?_
    rw [hQ]
    exact W.zret (v := 0) hx hb hr rfl (fun t ht hW => ⟨⟨0, (), rfl, h, by rw [ht]; exact hP, va_K.moved hW.alike hK, hD⟩, hS.F ht⟩) hS.2.2 dX3_isToken_17
def rm_X3_takeWord : Room := { frames := 5, cells := 0, slots := 0, locals := 107 }
theorem mi_X3_takeWord_X3 : ∀ w ∈ wsX30, w ∈ wsX3_takeWord := fun _ h => List.mem_cons_of_mem _ (List.mem_append_left _ (List.mem_append_right _ h))
set_option maxHeartbeats 4000000 in
set_option maxRecDepth 100000 in
theorem c_X3_takeWord (l : Launch) (D : va_G) (cI cZ : ClassId) (E : (Nat → Nat) × (Nat → Nat)) (rd_h : Nat) (rd_ad : Nat → Nat) (tp_h : Nat) (tp_ad : Nat → Nat) (rd_says : (Nat → Int32)) (rd_lines : Int32) (rd_fault : Int32) (rd_faultPlace : Int32) (rd_length : Int32) (rd_place : Int32) (rd_kind : Int32) (rd_start : Int32) (rd_value : Int32) (tp_words : (Nat → Int32)) (tp_length : Int32)  (K : (Int32 → Int32 → Int32 → Prop)) (h : wp_X3_takeWord rd_length rd_place rd_kind rd_start rd_value tp_words tp_length  K) : mk_Cv l D cI cZ E yX3_takeWord wsX3_takeWord rm_X3_takeWord ([.ref rd_h] : List Value) ((wo_X3 cI cZ rd_h rd_ad tp_h rd_says rd_lines rd_fault rd_faultPlace rd_length rd_place rd_kind rd_start rd_value) ++ (wo_X6 cI cZ tp_h tp_ad tp_words tp_length)) (fun (u : Int32 × Int32 × Int32) => ((wo_X3 cI cZ rd_h rd_ad tp_h rd_says rd_lines rd_fault rd_faultPlace rd_length u.1 u.2.1 rd_start u.2.2) ++ (wo_X6 cI cZ tp_h tp_ad tp_words tp_length))) (fun (u : Int32 × Int32 × Int32) => K u.1 u.2.1 u.2.2) := by
  intro sz
  refine Met.ofW (cc := cX3_takeWord) (maxL := 2) (ret := none) (by decide) rfl ?_
  intro p e s m args below meth c s₁ B hml hv
  obtain ⟨rfl, hsz, hP, hK, hD0, hN, hE⟩ := hv
  have hx := B.exec
  have hb := B.bytes
  have hr := B.returns
  have hts := atoms_spec (ws := wsX3_takeWord) B.pre
  have hown : s.vm.findClass RX3 = some m.cls := findClass_of_methodNamed B.named
  have hlocks := B.notSynchronized
  subst hsz
  have hD := hD0.self (sz := s.heap.size)
  generalize hAe : va_A ((wo_X3 cI cZ rd_h rd_ad tp_h rd_says rd_lines rd_fault rd_faultPlace rd_length rd_place rd_kind rd_start rd_value) ++ (wo_X6 cI cZ tp_h tp_ad tp_words tp_length)) s.heap.size = A at hD hE ⊢
  have hA : ∀ q : Nat, s.heap.size ≤ q → A q := fun q h => by rw [← hAe]; exact Or.inr h
  have hl := lv_entry ([.ref rd_h] : List Value) (n := 2) (Nat.le_of_ble_eq_true rfl)
  rw [lg_entry_eq]
  generalize (lg_sl ([.ref rd_h] : List Value) ++ List.replicate (2 - (lg_sl ([.ref rd_h] : List Value)).length) Slot.unset).toArray = ls at hl ⊢
  have hl : lv_has ls 2 [(0, .ref rd_h)] := hl
  refine mk_absQ (P := fun Q => W p l e _ s m _ below meth c s.heap [] 0 0 Q _) (fun Q hQ => ?_)
  refine mk_absH (P := fun H => W p l e _ s m _ below meth c H [] 0 0 Q _) (fun H hH => ?_)
  have hP : va_P D vwCl ((wo_X3 cI cZ rd_h rd_ad tp_h rd_says rd_lines rd_fault rd_faultPlace rd_length rd_place rd_kind rd_start rd_value) ++ (wo_X6 cI cZ tp_h tp_ad tp_words tp_length)) H := by rw [hH]; exact hP
  have hS : va_S A s.heap H [] := by rw [hH]; exact va_S.rf
  have b48 : ∀ (n : Nat), ∀ (rd_place : Int32) (rd_kind : Int32) (rd_value : Int32) (x1 : Int32), wp_X3_takeWord_b48 K rd_start tp_words tp_length n rd_place rd_kind rd_value x1 → ∀ (H : Heap) (locs : List Loc) (ls : Array Slot), va_P D vwCl ((wo_X3 cI cZ rd_h rd_ad tp_h rd_says rd_lines rd_fault rd_faultPlace rd_length rd_place rd_kind rd_start rd_value) ++ (wo_X6 cI cZ tp_h tp_ad tp_words tp_length)) H → va_D A ((wo_X3 cI cZ rd_h rd_ad tp_h rd_says rd_lines rd_fault rd_faultPlace rd_length rd_place rd_kind rd_start rd_value) ++ (wo_X6 cI cZ tp_h tp_ad tp_words tp_length)) → va_S A s.heap H locs → lv_has ls 2 [(0, .ref rd_h), (1, .int x1)] → W p l e (headSpec wsX3_takeWord rm_X3_takeWord).room s m ([.ref rd_h] : List Value).toArray below meth c H locs 0 0 Q (F0 m 48 ls []) := by
    intro n
    induction n with
    | zero => intro rd_place rd_kind rd_value x1 h; exact False.elim h
    | succ n ih =>
      intro rd_place rd_kind rd_value x1 h H locs ls hP hD hS hl
      refine lv_iload_n hx hb dX3_takeWord_48 rfl (lv_at hl 1 rfl) ?_
      refine lv_bipush (v := 6) hx hb dX3_takeWord_49 (by decide) ?_
      refine lv_icmp_ge (tgt := 81) hx hb dX3_takeWord_51 (by decide) (fun c_1 => ?_) (fun c_1 => ?_)
      · have h := h.1 c_1
        rw [hQ]
        exact W.vret hx hb hr (fun t ht hW => ⟨⟨(rd_place, rd_kind, rd_value), rfl, h, by rw [ht]; exact hP, va_K.moved hW.alike hK, hD⟩, hS.F ht⟩) hS.2.2 dX3_takeWord_81
      · have h := h.2 c_1
        refine lv_aload_n hx hb dX3_takeWord_54 rfl (lv_at hl 0 rfl) ?_
        refine lv_iload_n hx hb dX3_takeWord_55 rfl (lv_at hl 1 rfl) ?_
        have hP : va_P D vwCl ((fun v => v ++ ((wo_X3 cI cZ rd_h rd_ad tp_h rd_says rd_lines rd_fault rd_faultPlace rd_length rd_place rd_kind rd_start rd_value) ++ (wo_X6 cI cZ tp_h tp_ad tp_words tp_length))) []) H := hP
        have hD : va_D A ((fun v => v ++ ((wo_X3 cI cZ rd_h rd_ad tp_h rd_says rd_lines rd_fault rd_faultPlace rd_length rd_place rd_kind rd_start rd_value) ++ (wo_X6 cI cZ tp_h tp_ad tp_words tp_length))) []) := hD
        refine mk_cr (f := fun v => v ++ ((wo_X3 cI cZ rd_h rd_ad tp_h rd_says rd_lines rd_fault rd_faultPlace rd_length rd_place rd_kind rd_start rd_value) ++ (wo_X6 cI cZ tp_h tp_ad tp_words tp_length))) (mk_fr_hd _) (va_runS (As := [.int x1]) (rest := [.ref rd_h]) ⟨hx, hb, hml, hown, hts⟩ (c_spelling l D cI cZ E x1 H.size) (va_cwS 1 hts gX3_takeWord_X3_spelling rfl rfl rfl (by decide +kernel) ⟨Nat.le_of_ble_eq_true rfl, Nat.le_of_ble_eq_true rfl⟩) (mk_preS (mk_fr_hd _) hK hN hE hS hA hP hD) rfl rfl hl.1 rfl (lv_room (Nat.le_of_ble_eq_true rfl)) dX3_takeWord_56 ⟨Nat.le_of_ble_eq_true rfl, Nat.le_of_ble_eq_true rfl⟩) hP hD hS hA (fun s2 H locs hu hP hD hS => ?_)
        subst hu
        have hP : va_P D vwCl ((wo_X3 cI cZ rd_h rd_ad tp_h rd_says rd_lines rd_fault rd_faultPlace rd_length rd_place rd_kind rd_start rd_value) ++ (wo_X6 cI cZ tp_h tp_ad tp_words tp_length)) H := hP
        have hD : va_D A ((wo_X3 cI cZ rd_h rd_ad tp_h rd_says rd_lines rd_fault rd_faultPlace rd_length rd_place rd_kind rd_start rd_value) ++ (wo_X6 cI cZ tp_h tp_ad tp_words tp_length)) := hD
        have hP : va_P D vwCl ((fun v => v) ((wo_X3 cI cZ rd_h rd_ad tp_h rd_says rd_lines rd_fault rd_faultPlace rd_length rd_place rd_kind rd_start rd_value) ++ (wo_X6 cI cZ tp_h tp_ad tp_words tp_length))) H := hP
        have hD : va_D A ((fun v => v) ((wo_X3 cI cZ rd_h rd_ad tp_h rd_says rd_lines rd_fault rd_faultPlace rd_length rd_place rd_kind rd_start rd_value) ++ (wo_X6 cI cZ tp_h tp_ad tp_words tp_length))) := hD
        refine mk_ci (f := fun v => v) mk_fr_id (va_runV (As := [.ref (E.1 (mk_sp x1))]) (rest := []) ⟨hx, hb, hml, hown, hts⟩ (c_X3_isToken l D cI cZ E rd_h rd_ad tp_h tp_ad rd_says rd_lines rd_fault rd_faultPlace rd_length rd_place rd_kind rd_start rd_value tp_words tp_length (mk_sp x1) _ h H.size) (cwV 1 hts gX3_takeWord_X3_isToken rfl rfl rfl (by decide +kernel) ⟨Nat.le_of_ble_eq_true rfl, Nat.le_of_ble_eq_true rfl⟩) (mk_preV (ci := 3) mk_fr_id hK hN hE hS hA hP hD rfl rfl) rfl rfl hl.1 rfl (lv_room (Nat.le_of_ble_eq_true rfl)) dX3_takeWord_59 ⟨Nat.le_of_ble_eq_true rfl, Nat.le_of_ble_eq_true rfl⟩) hP hD hS hA (fun r3 u H locs h hP hD hS => ?_)
        try dsimp only at h
        have hP : va_P D vwCl ((wo_X3 cI cZ rd_h rd_ad tp_h rd_says rd_lines rd_fault rd_faultPlace rd_length rd_place rd_kind rd_start rd_value) ++ (wo_X6 cI cZ tp_h tp_ad tp_words tp_length)) H := hP
        have hD : va_D A ((wo_X3 cI cZ rd_h rd_ad tp_h rd_says rd_lines rd_fault rd_faultPlace rd_length rd_place rd_kind rd_start rd_value) ++ (wo_X6 cI cZ tp_h tp_ad tp_words tp_length)) := hD
        refine lv_if_eq (tgt := 75) hx hb dX3_takeWord_62 (by decide) (fun c_4 => ?_) (fun c_4 => ?_)
        · have h := h.1 c_4
          obtain ⟨y5, e_y5⟩ : ∃ y : Int32, y = x1 + 1 := ⟨_, rfl⟩
          have h := h y5 e_y5
          refine lv_iinc (v := y5) (lv' := [(1, .int y5), (0, .ref rd_h)]) hx hb dX3_takeWord_75 hl (k := 1) rfl (by rw [e_y5]; rfl) (by decide) rfl (fun ls hl => ?_)
          refine lv_goto (tgt := 48) hx hb dX3_takeWord_78 (by decide) ?_
          exact ih rd_place rd_kind rd_value y5 h _ _ _ hP hD hS (lv_sub hl [1, 0] rfl)
        · have h := h.2 c_4
          refine lv_aload_n hx hb dX3_takeWord_65 rfl (lv_at hl 0 rfl) ?_
          refine lv_iconst (v := 1) hx hb dX3_takeWord_66 (by decide) ?_
          refine va_put (D := D) (ci := 3) (v := .int 1) (ty := .int) (C := RX3) (T := TX3) (N := 10) hx hb hts mi_X3_takeWord_X3 tyX3 tyX3_ok nmX3 hown hK hP hD hS 0 rfl rfl 7 (by decide) (hts (.fieldLink RX3 44 "HiringHall$Reader" "kind" "I") (List.mem_of_getElem? (i := 4) rfl)) (fun _ h9 => h9) rfl (by decide +kernel) rfl rfl (Nat.le_of_ble_eq_true rfl) dX3_takeWord_67 (fun H locs hP hD hS => ?_)
          have hP : va_P D vwCl ((wo_X3 cI cZ rd_h rd_ad tp_h rd_says rd_lines rd_fault rd_faultPlace rd_length rd_place 1 rd_start rd_value) ++ (wo_X6 cI cZ tp_h tp_ad tp_words tp_length)) H := hP
          have hD : va_D A ((wo_X3 cI cZ rd_h rd_ad tp_h rd_says rd_lines rd_fault rd_faultPlace rd_length rd_place 1 rd_start rd_value) ++ (wo_X6 cI cZ tp_h tp_ad tp_words tp_length)) := hD
          refine lv_aload_n hx hb dX3_takeWord_70 rfl (lv_at hl 0 rfl) ?_
          refine lv_iload_n hx hb dX3_takeWord_71 rfl (lv_at hl 1 rfl) ?_
          refine va_put (D := D) (ci := 3) (v := .int x1) (ty := .int) (C := RX3) (T := TX3) (N := 10) hx hb hts mi_X3_takeWord_X3 tyX3 tyX3_ok nmX3 hown hK hP hD hS 0 rfl rfl 9 (by decide) (hts (.fieldLink RX3 57 "HiringHall$Reader" "value" "I") (List.mem_of_getElem? (i := 5) rfl)) (fun _ h9 => h9) rfl (by decide +kernel) rfl rfl (Nat.le_of_ble_eq_true rfl) dX3_takeWord_72 (fun H locs hP hD hS => ?_)
          have hP : va_P D vwCl ((wo_X3 cI cZ rd_h rd_ad tp_h rd_says rd_lines rd_fault rd_faultPlace rd_length rd_place 1 rd_start x1) ++ (wo_X6 cI cZ tp_h tp_ad tp_words tp_length)) H := hP
          have hD : va_D A ((wo_X3 cI cZ rd_h rd_ad tp_h rd_says rd_lines rd_fault rd_faultPlace rd_length rd_place 1 rd_start x1) ++ (wo_X6 cI cZ tp_h tp_ad tp_words tp_length)) := hD
          obtain ⟨y6, e_y6⟩ : ∃ y : Int32, y = x1 + 1 := ⟨_, rfl⟩
          have h := h y6 e_y6
          refine lv_iinc (v := y6) (lv' := [(1, .int y6), (0, .ref rd_h)]) hx hb dX3_takeWord_75 hl (k := 1) rfl (by rw [e_y6]; rfl) (by decide) rfl (fun ls hl => ?_)
          refine lv_goto (tgt := 48) hx hb dX3_takeWord_78 (by decide) ?_
          exact ih rd_place 1 x1 y6 h _ _ _ hP hD hS (lv_sub hl [1, 0] rfl)
  have b0 : ∀ (n : Nat), ∀ (rd_place : Int32), wp_X3_takeWord_b0 K rd_length rd_start rd_value tp_words tp_length n rd_place → ∀ (H : Heap) (locs : List Loc) (ls : Array Slot), va_P D vwCl ((wo_X3 cI cZ rd_h rd_ad tp_h rd_says rd_lines rd_fault rd_faultPlace rd_length rd_place rd_kind rd_start rd_value) ++ (wo_X6 cI cZ tp_h tp_ad tp_words tp_length)) H → va_D A ((wo_X3 cI cZ rd_h rd_ad tp_h rd_says rd_lines rd_fault rd_faultPlace rd_length rd_place rd_kind rd_start rd_value) ++ (wo_X6 cI cZ tp_h tp_ad tp_words tp_length)) → va_S A s.heap H locs → lv_has ls 2 [(0, .ref rd_h)] → W p l e (headSpec wsX3_takeWord rm_X3_takeWord).room s m ([.ref rd_h] : List Value).toArray below meth c H locs 0 0 Q (F0 m 0 ls []) := by
    intro n
    induction n with
    | zero => intro rd_place h; exact False.elim h
    | succ n ih =>
      intro rd_place h H locs ls hP hD hS hl
      refine lv_aload_n hx hb dX3_takeWord_0 rfl (lv_at hl 0 rfl) ?_
      refine va_get (D := D) (ci := 3) (v := .int rd_place) (C := RX3) (T := TX3) (N := 10) hx hb hts mi_X3_takeWord_X3 hown hK hP 0 rfl rfl 6 (by decide) (hts (.fieldLink RX3 38 "HiringHall$Reader" "place" "I") (List.mem_of_getElem? (i := 1) rfl)) (fun _ h9 => h9) rfl dX3_takeWord_1 ?_
      refine lv_aload_n hx hb dX3_takeWord_4 rfl (lv_at hl 0 rfl) ?_
      refine va_get (D := D) (ci := 3) (v := .int rd_length) (C := RX3) (T := TX3) (N := 10) hx hb hts mi_X3_takeWord_X3 hown hK hP 0 rfl rfl 5 (by decide) (hts (.fieldLink RX3 35 "HiringHall$Reader" "length" "I") (List.mem_of_getElem? (i := 2) rfl)) (fun _ h9 => h9) rfl dX3_takeWord_5 ?_
      refine lv_icmp_ge (tgt := 41) hx hb dX3_takeWord_8 (by decide) (fun c_7 => ?_) (fun c_7 => ?_)
      · have h := h.1 c_7
        refine lv_aload_n hx hb dX3_takeWord_41 rfl (lv_at hl 0 rfl) ?_
        refine lv_iconst (v := 4) hx hb dX3_takeWord_42 (by decide) ?_
        refine va_put (D := D) (ci := 3) (v := .int 4) (ty := .int) (C := RX3) (T := TX3) (N := 10) hx hb hts mi_X3_takeWord_X3 tyX3 tyX3_ok nmX3 hown hK hP hD hS 0 rfl rfl 7 (by decide) (hts (.fieldLink RX3 44 "HiringHall$Reader" "kind" "I") (List.mem_of_getElem? (i := 4) rfl)) (fun _ h9 => h9) rfl (by decide +kernel) rfl rfl (Nat.le_of_ble_eq_true rfl) dX3_takeWord_43 (fun H locs hP hD hS => ?_)
        have hP : va_P D vwCl ((wo_X3 cI cZ rd_h rd_ad tp_h rd_says rd_lines rd_fault rd_faultPlace rd_length rd_place 4 rd_start rd_value) ++ (wo_X6 cI cZ tp_h tp_ad tp_words tp_length)) H := hP
        have hD : va_D A ((wo_X3 cI cZ rd_h rd_ad tp_h rd_says rd_lines rd_fault rd_faultPlace rd_length rd_place 4 rd_start rd_value) ++ (wo_X6 cI cZ tp_h tp_ad tp_words tp_length)) := hD
        refine lv_iconst (v := 0) hx hb dX3_takeWord_46 (by decide) ?_
        refine lv_istore_n (lv' := [(1, .int 0), (0, .ref rd_h)]) hx hb dX3_takeWord_47 rfl hl (by decide) rfl (fun ls hl => ?_)
        obtain ⟨n, h⟩ := h
        exact b48  n rd_place 4 rd_value 0 h _ _ _ hP hD hS (lv_sub hl [1, 0] rfl)
      · have h := h.2 c_7
        refine lv_aload_n hx hb dX3_takeWord_11 rfl (lv_at hl 0 rfl) ?_
        refine va_get (D := D) (ci := 3) (v := .ref tp_h) (C := RX3) (T := TX3) (N := 10) hx hb hts mi_X3_takeWord_X3 hown hK hP 0 rfl rfl 0 (by decide) (hts (.fieldLink RX3 22 "HiringHall$Reader" "tape" "LHiringHall$Tape;") (List.mem_of_getElem? (i := 3) rfl)) (fun _ h9 => h9) rfl dX3_takeWord_12 ?_
        refine lv_aload_n hx hb dX3_takeWord_15 rfl (lv_at hl 0 rfl) ?_
        refine va_get (D := D) (ci := 3) (v := .int rd_place) (C := RX3) (T := TX3) (N := 10) hx hb hts mi_X3_takeWord_X3 hown hK hP 0 rfl rfl 6 (by decide) (hts (.fieldLink RX3 38 "HiringHall$Reader" "place" "I") (List.mem_of_getElem? (i := 1) rfl)) (fun _ h9 => h9) rfl dX3_takeWord_16 ?_
        have hP : va_P D vwCl ((fun v => (wo_X3 cI cZ rd_h rd_ad tp_h rd_says rd_lines rd_fault rd_faultPlace rd_length rd_place rd_kind rd_start rd_value) ++ v) (wo_X6 cI cZ tp_h tp_ad tp_words tp_length)) H := hP
        have hD : va_D A ((fun v => (wo_X3 cI cZ rd_h rd_ad tp_h rd_says rd_lines rd_fault rd_faultPlace rd_length rd_place rd_kind rd_start rd_value) ++ v) (wo_X6 cI cZ tp_h tp_ad tp_words tp_length)) := hD
        refine mk_ci (f := fun v => (wo_X3 cI cZ rd_h rd_ad tp_h rd_says rd_lines rd_fault rd_faultPlace rd_length rd_place rd_kind rd_start rd_value) ++ v) (mk_fr_end _) (va_runVN (As := [.int rd_place]) (rest := []) ⟨hx, hb, hml, hown, hts⟩ (c_X6_byteAt l D cI cZ E tp_h tp_ad tp_words tp_length rd_place _ h H.size) ⟨va_cnB 1 hts gX3_takeWord_X6_byteAt_n71 rfl rfl rfl (hN.2 (RX3, 71, yX6_byteAt, RX7) (List.mem_of_getElem? (i := 10) rfl)) (hts (.initialized RX6) (List.mem_of_getElem? (i := 7) rfl)) (by decide +kernel) ⟨Nat.le_of_ble_eq_true rfl, Nat.le_of_ble_eq_true rfl⟩, hts (.instanceMethod yX6_byteAt) (List.mem_of_getElem? (i := 6) rfl), hts (.selects RX6 yX6_byteAt yX6_byteAt) (List.mem_of_getElem? (i := 8) rfl)⟩ (mk_preV (ci := 6) (mk_fr_end _) hK hN hE hS hA hP hD rfl rfl) rfl rfl hl.1 rfl (lv_room (Nat.le_of_ble_eq_true rfl)) dX3_takeWord_19 ⟨Nat.le_of_ble_eq_true rfl, Nat.le_of_ble_eq_true rfl⟩) hP hD hS hA (fun r8 u H locs h hP hD hS => ?_)
        try dsimp only at h
        have hP : va_P D vwCl ((wo_X3 cI cZ rd_h rd_ad tp_h rd_says rd_lines rd_fault rd_faultPlace rd_length rd_place rd_kind rd_start rd_value) ++ (wo_X6 cI cZ tp_h tp_ad tp_words tp_length)) H := hP
        have hD : va_D A ((wo_X3 cI cZ rd_h rd_ad tp_h rd_says rd_lines rd_fault rd_faultPlace rd_length rd_place rd_kind rd_start rd_value) ++ (wo_X6 cI cZ tp_h tp_ad tp_words tp_length)) := hD
        have hP : va_P D vwCl ((fun v => v ++ ((wo_X3 cI cZ rd_h rd_ad tp_h rd_says rd_lines rd_fault rd_faultPlace rd_length rd_place rd_kind rd_start rd_value) ++ (wo_X6 cI cZ tp_h tp_ad tp_words tp_length))) ([] : va_W)) H := hP
        have hD : va_D A ((fun v => v ++ ((wo_X3 cI cZ rd_h rd_ad tp_h rd_says rd_lines rd_fault rd_faultPlace rd_length rd_place rd_kind rd_start rd_value) ++ (wo_X6 cI cZ tp_h tp_ad tp_words tp_length))) ([] : va_W)) := hD
        refine mk_ci (f := fun v => v ++ ((wo_X3 cI cZ rd_h rd_ad tp_h rd_says rd_lines rd_fault rd_faultPlace rd_length rd_place rd_kind rd_start rd_value) ++ (wo_X6 cI cZ tp_h tp_ad tp_words tp_length))) (mk_fr_hd _) (va_runS (As := [.int r8]) (rest := []) ⟨hx, hb, hml, hown, hts⟩ (c_X3_isLetter l D cI cZ E r8 _ h H.size) (va_cwS 1 hts gX3_takeWord_X3_isLetter rfl rfl rfl (by decide +kernel) ⟨Nat.le_of_ble_eq_true rfl, Nat.le_of_ble_eq_true rfl⟩) (mk_preS (mk_fr_hd _) hK hN hE hS hA hP hD) rfl rfl hl.1 rfl (lv_room (Nat.le_of_ble_eq_true rfl)) dX3_takeWord_22 ⟨Nat.le_of_ble_eq_true rfl, Nat.le_of_ble_eq_true rfl⟩) hP hD hS hA (fun r9 u H locs h hP hD hS => ?_)
        try dsimp only at h
        have hP : va_P D vwCl ((wo_X3 cI cZ rd_h rd_ad tp_h rd_says rd_lines rd_fault rd_faultPlace rd_length rd_place rd_kind rd_start rd_value) ++ (wo_X6 cI cZ tp_h tp_ad tp_words tp_length)) H := hP
        have hD : va_D A ((wo_X3 cI cZ rd_h rd_ad tp_h rd_says rd_lines rd_fault rd_faultPlace rd_length rd_place rd_kind rd_start rd_value) ++ (wo_X6 cI cZ tp_h tp_ad tp_words tp_length)) := hD
        refine lv_if_eq (tgt := 41) hx hb dX3_takeWord_25 (by decide) (fun c_10 => ?_) (fun c_10 => ?_)
        · have h := h.1 c_10
          refine lv_aload_n hx hb dX3_takeWord_41 rfl (lv_at hl 0 rfl) ?_
          refine lv_iconst (v := 4) hx hb dX3_takeWord_42 (by decide) ?_
          refine va_put (D := D) (ci := 3) (v := .int 4) (ty := .int) (C := RX3) (T := TX3) (N := 10) hx hb hts mi_X3_takeWord_X3 tyX3 tyX3_ok nmX3 hown hK hP hD hS 0 rfl rfl 7 (by decide) (hts (.fieldLink RX3 44 "HiringHall$Reader" "kind" "I") (List.mem_of_getElem? (i := 4) rfl)) (fun _ h9 => h9) rfl (by decide +kernel) rfl rfl (Nat.le_of_ble_eq_true rfl) dX3_takeWord_43 (fun H locs hP hD hS => ?_)
          have hP : va_P D vwCl ((wo_X3 cI cZ rd_h rd_ad tp_h rd_says rd_lines rd_fault rd_faultPlace rd_length rd_place 4 rd_start rd_value) ++ (wo_X6 cI cZ tp_h tp_ad tp_words tp_length)) H := hP
          have hD : va_D A ((wo_X3 cI cZ rd_h rd_ad tp_h rd_says rd_lines rd_fault rd_faultPlace rd_length rd_place 4 rd_start rd_value) ++ (wo_X6 cI cZ tp_h tp_ad tp_words tp_length)) := hD
          refine lv_iconst (v := 0) hx hb dX3_takeWord_46 (by decide) ?_
          refine lv_istore_n (lv' := [(1, .int 0), (0, .ref rd_h)]) hx hb dX3_takeWord_47 rfl hl (by decide) rfl (fun ls hl => ?_)
          obtain ⟨n, h⟩ := h
          exact b48  n rd_place 4 rd_value 0 h _ _ _ hP hD hS (lv_sub hl [1, 0] rfl)
        · have h := h.2 c_10
          refine lv_aload_n hx hb dX3_takeWord_28 rfl (lv_at hl 0 rfl) ?_
          refine lv_dup hx hb dX3_takeWord_29 rfl ?_
          refine va_get (D := D) (ci := 3) (v := .int rd_place) (C := RX3) (T := TX3) (N := 10) hx hb hts mi_X3_takeWord_X3 hown hK hP 0 rfl rfl 6 (by decide) (hts (.fieldLink RX3 38 "HiringHall$Reader" "place" "I") (List.mem_of_getElem? (i := 1) rfl)) (fun _ h9 => h9) rfl dX3_takeWord_30 ?_
          refine lv_iconst (v := 1) hx hb dX3_takeWord_33 (by decide) ?_
          refine lv_iadd hx hb dX3_takeWord_34 ?_
          refine lv_topi (fun y11 e_y11 => ?_)
          have h := h y11 e_y11
          refine va_put (D := D) (ci := 3) (v := .int y11) (ty := .int) (C := RX3) (T := TX3) (N := 10) hx hb hts mi_X3_takeWord_X3 tyX3 tyX3_ok nmX3 hown hK hP hD hS 0 rfl rfl 6 (by decide) (hts (.fieldLink RX3 38 "HiringHall$Reader" "place" "I") (List.mem_of_getElem? (i := 1) rfl)) (fun _ h9 => h9) rfl (by decide +kernel) rfl rfl (Nat.le_of_ble_eq_true rfl) dX3_takeWord_35 (fun H locs hP hD hS => ?_)
          have hP : va_P D vwCl ((wo_X3 cI cZ rd_h rd_ad tp_h rd_says rd_lines rd_fault rd_faultPlace rd_length y11 rd_kind rd_start rd_value) ++ (wo_X6 cI cZ tp_h tp_ad tp_words tp_length)) H := hP
          have hD : va_D A ((wo_X3 cI cZ rd_h rd_ad tp_h rd_says rd_lines rd_fault rd_faultPlace rd_length y11 rd_kind rd_start rd_value) ++ (wo_X6 cI cZ tp_h tp_ad tp_words tp_length)) := hD
          refine lv_goto (tgt := 0) hx hb dX3_takeWord_38 (by decide) ?_
          exact ih y11 h _ _ _ hP hD hS (lv_sub hl [0] rfl)
  obtain ⟨n, h⟩ := h
  exact b0  n rd_place h _ _ _ hP hD hS (lv_sub hl [0] rfl)
def rm_X3_isDigit : Room := { frames := 0, cells := 0, slots := 0, locals := 0 }
set_option maxHeartbeats 4000000 in
set_option maxRecDepth 100000 in
theorem c_X3_isDigit (l : Launch) (D : va_G) (cI cZ : ClassId) (E : (Nat → Nat) × (Nat → Nat))   (x0 : Int32) (K : (Int32 → Prop)) (h : wp_X3_isDigit  x0 K) : mk_Ci l D cI cZ E yX3_isDigit wsX3_isDigit rm_X3_isDigit ([.int x0] : List Value) ([] : va_W) (fun (u : Unit) => ([] : va_W)) (fun (r : Int32) (u : Unit) => K r) := by
  intro sz
  refine Met.ofW (cc := cX3_isDigit) (maxL := 1) (ret := (some .boolean)) (by decide) rfl ?_
  intro p e s m args below meth c s₁ B hml hv
  obtain ⟨rfl, hsz, hP, hK, hD0, hN, hE⟩ := hv
  have hx := B.exec
  have hb := B.bytes
  have hr := B.returns
  have hts := atoms_spec (ws := wsX3_isDigit) B.pre
  have hown : s.vm.findClass RX3 = some m.cls := findClass_of_methodNamed B.named
  have hlocks := B.notSynchronized
  subst hsz
  have hD := hD0.self (sz := s.heap.size)
  generalize hAe : va_A ([] : va_W) s.heap.size = A at hD hE ⊢
  have hA : ∀ q : Nat, s.heap.size ≤ q → A q := fun q h => by rw [← hAe]; exact Or.inr h
  have hl := lv_entry ([.int x0] : List Value) (n := 1) (Nat.le_of_ble_eq_true rfl)
  rw [lg_entry_eq]
  generalize (lg_sl ([.int x0] : List Value) ++ List.replicate (1 - (lg_sl ([.int x0] : List Value)).length) Slot.unset).toArray = ls at hl ⊢
  have hl : lv_has ls 1 [(0, .int x0)] := hl
  refine mk_absQ (P := fun Q => W p l e _ s m _ below meth c s.heap [] 0 0 Q _) (fun Q hQ => ?_)
  refine mk_absH (P := fun H => W p l e _ s m _ below meth c H [] 0 0 Q _) (fun H hH => ?_)
  have hP : va_P D vwCl ([] : va_W) H := by rw [hH]; exact hP
  have hS : va_S A s.heap H [] := by rw [hH]; exact va_S.rf
  refine lv_iload_n hx hb dX3_isDigit_0 rfl (lv_at hl 0 rfl) ?_
  refine lv_bipush (v := 48) hx hb dX3_isDigit_1 (by decide) ?_
  refine lv_icmp_lt (tgt := 16) hx hb dX3_isDigit_3 (by decide) (fun c_1 => ?_) (fun c_1 => ?_)
  · have h := h.1 c_1
    refine lv_iconst (v := 0) hx hb dX3_isDigit_16 (by decide) ?_
    rw [hQ]
    exact W.zret (v := 0) hx hb hr rfl (fun t ht hW => ⟨⟨0, (), rfl, h, by rw [ht]; exact hP, va_K.moved hW.alike hK, hD⟩, hS.F ht⟩) hS.2.2 dX3_isDigit_17
  · have h := h.2 c_1
    refine lv_iload_n hx hb dX3_isDigit_6 rfl (lv_at hl 0 rfl) ?_
    refine lv_bipush (v := 57) hx hb dX3_isDigit_7 (by decide) ?_
    refine lv_icmp_gt (tgt := 16) hx hb dX3_isDigit_9 (by decide) (fun c_2 => ?_) (fun c_2 => ?_)
    · have h := h.1 c_2
      refine lv_iconst (v := 0) hx hb dX3_isDigit_16 (by decide) ?_
      rw [hQ]
      exact W.zret (v := 0) hx hb hr rfl (fun t ht hW => ⟨⟨0, (), rfl, h, by rw [ht]; exact hP, va_K.moved hW.alike hK, hD⟩, hS.F ht⟩) hS.2.2 dX3_isDigit_17
    · have h := h.2 c_2
      refine lv_iconst (v := 1) hx hb dX3_isDigit_12 (by decide) ?_
      refine lv_goto (tgt := 17) hx hb dX3_isDigit_13 (by decide) ?_
      rw [hQ]
      exact W.zret (v := 1) hx hb hr rfl (fun t ht hW => ⟨⟨1, (), rfl, h, by rw [ht]; exact hP, va_K.moved hW.alike hK, hD⟩, hS.F ht⟩) hS.2.2 dX3_isDigit_17
def rm_X3_takeNumber : Room := { frames := 1, cells := 0, slots := 0, locals := 21 }
theorem mi_X3_takeNumber_X3 : ∀ w ∈ wsX30, w ∈ wsX3_takeNumber := fun _ h => List.mem_cons_of_mem _ (List.mem_append_left _ (List.mem_append_right _ h))
set_option maxHeartbeats 4000000 in
set_option maxRecDepth 100000 in
theorem c_X3_takeNumber (l : Launch) (D : va_G) (cI cZ : ClassId) (E : (Nat → Nat) × (Nat → Nat)) (rd_h : Nat) (rd_ad : Nat → Nat) (tp_h : Nat) (tp_ad : Nat → Nat) (rd_says : (Nat → Int32)) (rd_lines : Int32) (rd_fault : Int32) (rd_faultPlace : Int32) (rd_length : Int32) (rd_place : Int32) (rd_kind : Int32) (rd_start : Int32) (rd_value : Int32) (tp_words : (Nat → Int32)) (tp_length : Int32)  (K : (Int32 → Int32 → Int32 → Prop)) (h : wp_X3_takeNumber rd_length rd_place rd_kind rd_value tp_words tp_length  K) : mk_Cv l D cI cZ E yX3_takeNumber wsX3_takeNumber rm_X3_takeNumber ([.ref rd_h] : List Value) ((wo_X3 cI cZ rd_h rd_ad tp_h rd_says rd_lines rd_fault rd_faultPlace rd_length rd_place rd_kind rd_start rd_value) ++ (wo_X6 cI cZ tp_h tp_ad tp_words tp_length)) (fun (u : Int32 × Int32 × Int32) => ((wo_X3 cI cZ rd_h rd_ad tp_h rd_says rd_lines rd_fault rd_faultPlace rd_length u.1 u.2.1 rd_start u.2.2) ++ (wo_X6 cI cZ tp_h tp_ad tp_words tp_length))) (fun (u : Int32 × Int32 × Int32) => K u.1 u.2.1 u.2.2) := by
  intro sz
  refine Met.ofW (cc := cX3_takeNumber) (maxL := 1) (ret := none) (by decide) rfl ?_
  intro p e s m args below meth c s₁ B hml hv
  obtain ⟨rfl, hsz, hP, hK, hD0, hN, hE⟩ := hv
  have hx := B.exec
  have hb := B.bytes
  have hr := B.returns
  have hts := atoms_spec (ws := wsX3_takeNumber) B.pre
  have hown : s.vm.findClass RX3 = some m.cls := findClass_of_methodNamed B.named
  have hlocks := B.notSynchronized
  subst hsz
  have hD := hD0.self (sz := s.heap.size)
  generalize hAe : va_A ((wo_X3 cI cZ rd_h rd_ad tp_h rd_says rd_lines rd_fault rd_faultPlace rd_length rd_place rd_kind rd_start rd_value) ++ (wo_X6 cI cZ tp_h tp_ad tp_words tp_length)) s.heap.size = A at hD hE ⊢
  have hA : ∀ q : Nat, s.heap.size ≤ q → A q := fun q h => by rw [← hAe]; exact Or.inr h
  have hl := lv_entry ([.ref rd_h] : List Value) (n := 1) (Nat.le_of_ble_eq_true rfl)
  rw [lg_entry_eq]
  generalize (lg_sl ([.ref rd_h] : List Value) ++ List.replicate (1 - (lg_sl ([.ref rd_h] : List Value)).length) Slot.unset).toArray = ls at hl ⊢
  have hl : lv_has ls 1 [(0, .ref rd_h)] := hl
  refine mk_absQ (P := fun Q => W p l e _ s m _ below meth c s.heap [] 0 0 Q _) (fun Q hQ => ?_)
  refine mk_absH (P := fun H => W p l e _ s m _ below meth c H [] 0 0 Q _) (fun H hH => ?_)
  have hP : va_P D vwCl ((wo_X3 cI cZ rd_h rd_ad tp_h rd_says rd_lines rd_fault rd_faultPlace rd_length rd_place rd_kind rd_start rd_value) ++ (wo_X6 cI cZ tp_h tp_ad tp_words tp_length)) H := by rw [hH]; exact hP
  have hS : va_S A s.heap H [] := by rw [hH]; exact va_S.rf
  have b74 : ∀ (k10 : (Int32 → Int32 → Int32 → Prop)), (∀ (rd_place : Int32) (rd_kind : Int32) (rd_value : Int32), k10 rd_place rd_kind rd_value → ∀ (H : Heap) (locs : List Loc) (ls : Array Slot), va_P D vwCl ((wo_X3 cI cZ rd_h rd_ad tp_h rd_says rd_lines rd_fault rd_faultPlace rd_length rd_place rd_kind rd_start rd_value) ++ (wo_X6 cI cZ tp_h tp_ad tp_words tp_length)) H → va_D A ((wo_X3 cI cZ rd_h rd_ad tp_h rd_says rd_lines rd_fault rd_faultPlace rd_length rd_place rd_kind rd_start rd_value) ++ (wo_X6 cI cZ tp_h tp_ad tp_words tp_length)) → va_S A s.heap H locs → lv_has ls 1 [(0, .ref rd_h)] → W p l e (headSpec wsX3_takeNumber rm_X3_takeNumber).room s m ([.ref rd_h] : List Value).toArray below meth c H locs 0 0 Q (F0 m 10 ls [])) → ∀ (rd_place : Int32) (rd_kind : Int32) (rd_value : Int32), wp_X3_takeNumber_b74 K k10 rd_place rd_kind rd_value → ∀ (H : Heap) (locs : List Loc) (ls : Array Slot), va_P D vwCl ((wo_X3 cI cZ rd_h rd_ad tp_h rd_says rd_lines rd_fault rd_faultPlace rd_length rd_place rd_kind rd_start rd_value) ++ (wo_X6 cI cZ tp_h tp_ad tp_words tp_length)) H → va_D A ((wo_X3 cI cZ rd_h rd_ad tp_h rd_says rd_lines rd_fault rd_faultPlace rd_length rd_place rd_kind rd_start rd_value) ++ (wo_X6 cI cZ tp_h tp_ad tp_words tp_length)) → va_S A s.heap H locs → lv_has ls 1 [(0, .ref rd_h)] → W p l e (headSpec wsX3_takeNumber rm_X3_takeNumber).room s m ([.ref rd_h] : List Value).toArray below meth c H locs 0 0 Q (F0 m 74 ls []) := by
    intro k10 hk10 rd_place rd_kind rd_value h H locs ls hP hD hS hl
    refine lv_aload_n hx hb dX3_takeNumber_74 rfl (lv_at hl 0 rfl) ?_
    refine lv_dup hx hb dX3_takeNumber_75 rfl ?_
    refine va_get (D := D) (ci := 3) (v := .int rd_place) (C := RX3) (T := TX3) (N := 10) hx hb hts mi_X3_takeNumber_X3 hown hK hP 0 rfl rfl 6 (by decide) (hts (.fieldLink RX3 38 "HiringHall$Reader" "place" "I") (List.mem_of_getElem? (i := 3) rfl)) (fun _ h9 => h9) rfl dX3_takeNumber_76 ?_
    refine lv_iconst (v := 1) hx hb dX3_takeNumber_79 (by decide) ?_
    refine lv_iadd hx hb dX3_takeNumber_80 ?_
    refine lv_topi (fun y1 e_y1 => ?_)
    have h := h y1 e_y1
    refine va_put (D := D) (ci := 3) (v := .int y1) (ty := .int) (C := RX3) (T := TX3) (N := 10) hx hb hts mi_X3_takeNumber_X3 tyX3 tyX3_ok nmX3 hown hK hP hD hS 0 rfl rfl 6 (by decide) (hts (.fieldLink RX3 38 "HiringHall$Reader" "place" "I") (List.mem_of_getElem? (i := 3) rfl)) (fun _ h9 => h9) rfl (by decide +kernel) rfl rfl (Nat.le_of_ble_eq_true rfl) dX3_takeNumber_81 (fun H locs hP hD hS => ?_)
    have hP : va_P D vwCl ((wo_X3 cI cZ rd_h rd_ad tp_h rd_says rd_lines rd_fault rd_faultPlace rd_length y1 rd_kind rd_start rd_value) ++ (wo_X6 cI cZ tp_h tp_ad tp_words tp_length)) H := hP
    have hD : va_D A ((wo_X3 cI cZ rd_h rd_ad tp_h rd_says rd_lines rd_fault rd_faultPlace rd_length y1 rd_kind rd_start rd_value) ++ (wo_X6 cI cZ tp_h tp_ad tp_words tp_length)) := hD
    refine lv_goto (tgt := 10) hx hb dX3_takeNumber_84 (by decide) ?_
    exact hk10 y1 rd_kind rd_value h _ _ _ hP hD hS (lv_sub hl [0] rfl)
  have b10 : ∀ (n : Nat), ∀ (rd_place : Int32) (rd_kind : Int32) (rd_value : Int32), wp_X3_takeNumber_b10 K rd_length tp_words tp_length n rd_place rd_kind rd_value → ∀ (H : Heap) (locs : List Loc) (ls : Array Slot), va_P D vwCl ((wo_X3 cI cZ rd_h rd_ad tp_h rd_says rd_lines rd_fault rd_faultPlace rd_length rd_place rd_kind rd_start rd_value) ++ (wo_X6 cI cZ tp_h tp_ad tp_words tp_length)) H → va_D A ((wo_X3 cI cZ rd_h rd_ad tp_h rd_says rd_lines rd_fault rd_faultPlace rd_length rd_place rd_kind rd_start rd_value) ++ (wo_X6 cI cZ tp_h tp_ad tp_words tp_length)) → va_S A s.heap H locs → lv_has ls 1 [(0, .ref rd_h)] → W p l e (headSpec wsX3_takeNumber rm_X3_takeNumber).room s m ([.ref rd_h] : List Value).toArray below meth c H locs 0 0 Q (F0 m 10 ls []) := by
    intro n
    induction n with
    | zero => intro rd_place rd_kind rd_value h; exact False.elim h
    | succ n ih =>
      intro rd_place rd_kind rd_value h H locs ls hP hD hS hl
      refine lv_aload_n hx hb dX3_takeNumber_10 rfl (lv_at hl 0 rfl) ?_
      refine va_get (D := D) (ci := 3) (v := .int rd_place) (C := RX3) (T := TX3) (N := 10) hx hb hts mi_X3_takeNumber_X3 hown hK hP 0 rfl rfl 6 (by decide) (hts (.fieldLink RX3 38 "HiringHall$Reader" "place" "I") (List.mem_of_getElem? (i := 3) rfl)) (fun _ h9 => h9) rfl dX3_takeNumber_11 ?_
      refine lv_aload_n hx hb dX3_takeNumber_14 rfl (lv_at hl 0 rfl) ?_
      refine va_get (D := D) (ci := 3) (v := .int rd_length) (C := RX3) (T := TX3) (N := 10) hx hb hts mi_X3_takeNumber_X3 hown hK hP 0 rfl rfl 5 (by decide) (hts (.fieldLink RX3 35 "HiringHall$Reader" "length" "I") (List.mem_of_getElem? (i := 4) rfl)) (fun _ h9 => h9) rfl dX3_takeNumber_15 ?_
      refine lv_icmp_ge (tgt := 87) hx hb dX3_takeNumber_18 (by decide) (fun c_2 => ?_) (fun c_2 => ?_)
      · have h := h.1 c_2
        rw [hQ]
        exact W.vret hx hb hr (fun t ht hW => ⟨⟨(rd_place, rd_kind, rd_value), rfl, h, by rw [ht]; exact hP, va_K.moved hW.alike hK, hD⟩, hS.F ht⟩) hS.2.2 dX3_takeNumber_87
      · have h := h.2 c_2
        refine lv_aload_n hx hb dX3_takeNumber_21 rfl (lv_at hl 0 rfl) ?_
        refine va_get (D := D) (ci := 3) (v := .ref tp_h) (C := RX3) (T := TX3) (N := 10) hx hb hts mi_X3_takeNumber_X3 hown hK hP 0 rfl rfl 0 (by decide) (hts (.fieldLink RX3 22 "HiringHall$Reader" "tape" "LHiringHall$Tape;") (List.mem_of_getElem? (i := 5) rfl)) (fun _ h9 => h9) rfl dX3_takeNumber_22 ?_
        refine lv_aload_n hx hb dX3_takeNumber_25 rfl (lv_at hl 0 rfl) ?_
        refine va_get (D := D) (ci := 3) (v := .int rd_place) (C := RX3) (T := TX3) (N := 10) hx hb hts mi_X3_takeNumber_X3 hown hK hP 0 rfl rfl 6 (by decide) (hts (.fieldLink RX3 38 "HiringHall$Reader" "place" "I") (List.mem_of_getElem? (i := 3) rfl)) (fun _ h9 => h9) rfl dX3_takeNumber_26 ?_
        have hP : va_P D vwCl ((fun v => (wo_X3 cI cZ rd_h rd_ad tp_h rd_says rd_lines rd_fault rd_faultPlace rd_length rd_place rd_kind rd_start rd_value) ++ v) (wo_X6 cI cZ tp_h tp_ad tp_words tp_length)) H := hP
        have hD : va_D A ((fun v => (wo_X3 cI cZ rd_h rd_ad tp_h rd_says rd_lines rd_fault rd_faultPlace rd_length rd_place rd_kind rd_start rd_value) ++ v) (wo_X6 cI cZ tp_h tp_ad tp_words tp_length)) := hD
        refine mk_ci (f := fun v => (wo_X3 cI cZ rd_h rd_ad tp_h rd_says rd_lines rd_fault rd_faultPlace rd_length rd_place rd_kind rd_start rd_value) ++ v) (mk_fr_end _) (va_runVN (As := [.int rd_place]) (rest := []) ⟨hx, hb, hml, hown, hts⟩ (c_X6_byteAt l D cI cZ E tp_h tp_ad tp_words tp_length rd_place _ h H.size) ⟨va_cnB 1 hts gX3_takeNumber_X6_byteAt_n71 rfl rfl rfl (hN.2 (RX3, 71, yX6_byteAt, RX7) (List.mem_of_getElem? (i := 10) rfl)) (hts (.initialized RX6) (List.mem_of_getElem? (i := 7) rfl)) (by decide +kernel) ⟨Nat.le_of_ble_eq_true rfl, Nat.le_of_ble_eq_true rfl⟩, hts (.instanceMethod yX6_byteAt) (List.mem_of_getElem? (i := 6) rfl), hts (.selects RX6 yX6_byteAt yX6_byteAt) (List.mem_of_getElem? (i := 8) rfl)⟩ (mk_preV (ci := 6) (mk_fr_end _) hK hN hE hS hA hP hD rfl rfl) rfl rfl hl.1 rfl (lv_room (Nat.le_of_ble_eq_true rfl)) dX3_takeNumber_29 ⟨Nat.le_of_ble_eq_true rfl, Nat.le_of_ble_eq_true rfl⟩) hP hD hS hA (fun r3 u H locs h hP hD hS => ?_)
        try dsimp only at h
        have hP : va_P D vwCl ((wo_X3 cI cZ rd_h rd_ad tp_h rd_says rd_lines rd_fault rd_faultPlace rd_length rd_place rd_kind rd_start rd_value) ++ (wo_X6 cI cZ tp_h tp_ad tp_words tp_length)) H := hP
        have hD : va_D A ((wo_X3 cI cZ rd_h rd_ad tp_h rd_says rd_lines rd_fault rd_faultPlace rd_length rd_place rd_kind rd_start rd_value) ++ (wo_X6 cI cZ tp_h tp_ad tp_words tp_length)) := hD
        have hP : va_P D vwCl ((fun v => v ++ ((wo_X3 cI cZ rd_h rd_ad tp_h rd_says rd_lines rd_fault rd_faultPlace rd_length rd_place rd_kind rd_start rd_value) ++ (wo_X6 cI cZ tp_h tp_ad tp_words tp_length))) ([] : va_W)) H := hP
        have hD : va_D A ((fun v => v ++ ((wo_X3 cI cZ rd_h rd_ad tp_h rd_says rd_lines rd_fault rd_faultPlace rd_length rd_place rd_kind rd_start rd_value) ++ (wo_X6 cI cZ tp_h tp_ad tp_words tp_length))) ([] : va_W)) := hD
        refine mk_ci (f := fun v => v ++ ((wo_X3 cI cZ rd_h rd_ad tp_h rd_says rd_lines rd_fault rd_faultPlace rd_length rd_place rd_kind rd_start rd_value) ++ (wo_X6 cI cZ tp_h tp_ad tp_words tp_length))) (mk_fr_hd _) (va_runS (As := [.int r3]) (rest := []) ⟨hx, hb, hml, hown, hts⟩ (c_X3_isDigit l D cI cZ E r3 _ h H.size) (va_cwS 1 hts gX3_takeNumber_X3_isDigit rfl rfl rfl (by decide +kernel) ⟨Nat.le_of_ble_eq_true rfl, Nat.le_of_ble_eq_true rfl⟩) (mk_preS (mk_fr_hd _) hK hN hE hS hA hP hD) rfl rfl hl.1 rfl (lv_room (Nat.le_of_ble_eq_true rfl)) dX3_takeNumber_32 ⟨Nat.le_of_ble_eq_true rfl, Nat.le_of_ble_eq_true rfl⟩) hP hD hS hA (fun r4 u H locs h hP hD hS => ?_)
        try dsimp only at h
        have hP : va_P D vwCl ((wo_X3 cI cZ rd_h rd_ad tp_h rd_says rd_lines rd_fault rd_faultPlace rd_length rd_place rd_kind rd_start rd_value) ++ (wo_X6 cI cZ tp_h tp_ad tp_words tp_length)) H := hP
        have hD : va_D A ((wo_X3 cI cZ rd_h rd_ad tp_h rd_says rd_lines rd_fault rd_faultPlace rd_length rd_place rd_kind rd_start rd_value) ++ (wo_X6 cI cZ tp_h tp_ad tp_words tp_length)) := hD
        refine lv_if_eq (tgt := 87) hx hb dX3_takeNumber_35 (by decide) (fun c_5 => ?_) (fun c_5 => ?_)
        · have h := h.1 c_5
          rw [hQ]
          exact W.vret hx hb hr (fun t ht hW => ⟨⟨(rd_place, rd_kind, rd_value), rfl, h, by rw [ht]; exact hP, va_K.moved hW.alike hK, hD⟩, hS.F ht⟩) hS.2.2 dX3_takeNumber_87
        · have h := h.2 c_5
          refine lv_aload_n hx hb dX3_takeNumber_38 rfl (lv_at hl 0 rfl) ?_
          refine va_get (D := D) (ci := 3) (v := .int rd_value) (C := RX3) (T := TX3) (N := 10) hx hb hts mi_X3_takeNumber_X3 hown hK hP 0 rfl rfl 9 (by decide) (hts (.fieldLink RX3 57 "HiringHall$Reader" "value" "I") (List.mem_of_getElem? (i := 2) rfl)) (fun _ h9 => h9) rfl dX3_takeNumber_39 ?_
          refine lv_sipush (v := 999) hx hb dX3_takeNumber_42 (by decide) ?_
          refine lv_icmp_gt (tgt := 74) hx hb dX3_takeNumber_45 (by decide) (fun c_6 => ?_) (fun c_6 => ?_)
          · have h := h.1 c_6
            exact b74 _ ih rd_place rd_kind rd_value h _ _ _ hP hD hS (lv_sub hl [0] rfl)
          · have h := h.2 c_6
            refine lv_aload_n hx hb dX3_takeNumber_48 rfl (lv_at hl 0 rfl) ?_
            refine lv_aload_n hx hb dX3_takeNumber_49 rfl (lv_at hl 0 rfl) ?_
            refine va_get (D := D) (ci := 3) (v := .int rd_value) (C := RX3) (T := TX3) (N := 10) hx hb hts mi_X3_takeNumber_X3 hown hK hP 0 rfl rfl 9 (by decide) (hts (.fieldLink RX3 57 "HiringHall$Reader" "value" "I") (List.mem_of_getElem? (i := 2) rfl)) (fun _ h9 => h9) rfl dX3_takeNumber_50 ?_
            refine lv_bipush (v := 10) hx hb dX3_takeNumber_53 (by decide) ?_
            refine lv_imul hx hb dX3_takeNumber_55 ?_
            refine lv_aload_n hx hb dX3_takeNumber_56 rfl (lv_at hl 0 rfl) ?_
            refine va_get (D := D) (ci := 3) (v := .ref tp_h) (C := RX3) (T := TX3) (N := 10) hx hb hts mi_X3_takeNumber_X3 hown hK hP 0 rfl rfl 0 (by decide) (hts (.fieldLink RX3 22 "HiringHall$Reader" "tape" "LHiringHall$Tape;") (List.mem_of_getElem? (i := 5) rfl)) (fun _ h9 => h9) rfl dX3_takeNumber_57 ?_
            refine lv_aload_n hx hb dX3_takeNumber_60 rfl (lv_at hl 0 rfl) ?_
            refine va_get (D := D) (ci := 3) (v := .int rd_place) (C := RX3) (T := TX3) (N := 10) hx hb hts mi_X3_takeNumber_X3 hown hK hP 0 rfl rfl 6 (by decide) (hts (.fieldLink RX3 38 "HiringHall$Reader" "place" "I") (List.mem_of_getElem? (i := 3) rfl)) (fun _ h9 => h9) rfl dX3_takeNumber_61 ?_
            have hP : va_P D vwCl ((fun v => (wo_X3 cI cZ rd_h rd_ad tp_h rd_says rd_lines rd_fault rd_faultPlace rd_length rd_place rd_kind rd_start rd_value) ++ v) (wo_X6 cI cZ tp_h tp_ad tp_words tp_length)) H := hP
            have hD : va_D A ((fun v => (wo_X3 cI cZ rd_h rd_ad tp_h rd_says rd_lines rd_fault rd_faultPlace rd_length rd_place rd_kind rd_start rd_value) ++ v) (wo_X6 cI cZ tp_h tp_ad tp_words tp_length)) := hD
            refine mk_ci (f := fun v => (wo_X3 cI cZ rd_h rd_ad tp_h rd_says rd_lines rd_fault rd_faultPlace rd_length rd_place rd_kind rd_start rd_value) ++ v) (mk_fr_end _) (va_runVN (As := [.int rd_place]) (rest := [.int (rd_value * 10), .ref rd_h]) ⟨hx, hb, hml, hown, hts⟩ (c_X6_byteAt l D cI cZ E tp_h tp_ad tp_words tp_length rd_place _ h H.size) ⟨va_cnB 1 hts gX3_takeNumber_X6_byteAt_n71 rfl rfl rfl (hN.2 (RX3, 71, yX6_byteAt, RX7) (List.mem_of_getElem? (i := 10) rfl)) (hts (.initialized RX6) (List.mem_of_getElem? (i := 7) rfl)) (by decide +kernel) ⟨Nat.le_of_ble_eq_true rfl, Nat.le_of_ble_eq_true rfl⟩, hts (.instanceMethod yX6_byteAt) (List.mem_of_getElem? (i := 6) rfl), hts (.selects RX6 yX6_byteAt yX6_byteAt) (List.mem_of_getElem? (i := 8) rfl)⟩ (mk_preV (ci := 6) (mk_fr_end _) hK hN hE hS hA hP hD rfl rfl) rfl rfl hl.1 rfl (lv_room (Nat.le_of_ble_eq_true rfl)) dX3_takeNumber_64 ⟨Nat.le_of_ble_eq_true rfl, Nat.le_of_ble_eq_true rfl⟩) hP hD hS hA (fun r7 u H locs h hP hD hS => ?_)
            try dsimp only at h
            have hP : va_P D vwCl ((wo_X3 cI cZ rd_h rd_ad tp_h rd_says rd_lines rd_fault rd_faultPlace rd_length rd_place rd_kind rd_start rd_value) ++ (wo_X6 cI cZ tp_h tp_ad tp_words tp_length)) H := hP
            have hD : va_D A ((wo_X3 cI cZ rd_h rd_ad tp_h rd_says rd_lines rd_fault rd_faultPlace rd_length rd_place rd_kind rd_start rd_value) ++ (wo_X6 cI cZ tp_h tp_ad tp_words tp_length)) := hD
            refine lv_iadd hx hb dX3_takeNumber_67 ?_
            refine lv_bipush (v := 48) hx hb dX3_takeNumber_68 (by decide) ?_
            refine lv_isub hx hb dX3_takeNumber_70 ?_
            refine lv_topi (fun y8 e_y8 => ?_)
            have h := h y8 e_y8
            refine va_put (D := D) (ci := 3) (v := .int y8) (ty := .int) (C := RX3) (T := TX3) (N := 10) hx hb hts mi_X3_takeNumber_X3 tyX3 tyX3_ok nmX3 hown hK hP hD hS 0 rfl rfl 9 (by decide) (hts (.fieldLink RX3 57 "HiringHall$Reader" "value" "I") (List.mem_of_getElem? (i := 2) rfl)) (fun _ h9 => h9) rfl (by decide +kernel) rfl rfl (Nat.le_of_ble_eq_true rfl) dX3_takeNumber_71 (fun H locs hP hD hS => ?_)
            have hP : va_P D vwCl ((wo_X3 cI cZ rd_h rd_ad tp_h rd_says rd_lines rd_fault rd_faultPlace rd_length rd_place rd_kind rd_start y8) ++ (wo_X6 cI cZ tp_h tp_ad tp_words tp_length)) H := hP
            have hD : va_D A ((wo_X3 cI cZ rd_h rd_ad tp_h rd_says rd_lines rd_fault rd_faultPlace rd_length rd_place rd_kind rd_start y8) ++ (wo_X6 cI cZ tp_h tp_ad tp_words tp_length)) := hD
            exact b74 _ ih rd_place rd_kind y8 h _ _ _ hP hD hS (lv_sub hl [0] rfl)
  refine lv_aload_n hx hb dX3_takeNumber_0 rfl (lv_at hl 0 rfl) ?_
  refine lv_iconst (v := 2) hx hb dX3_takeNumber_1 (by decide) ?_
  refine va_put (D := D) (ci := 3) (v := .int 2) (ty := .int) (C := RX3) (T := TX3) (N := 10) hx hb hts mi_X3_takeNumber_X3 tyX3 tyX3_ok nmX3 hown hK hP hD hS 0 rfl rfl 7 (by decide) (hts (.fieldLink RX3 44 "HiringHall$Reader" "kind" "I") (List.mem_of_getElem? (i := 1) rfl)) (fun _ h9 => h9) rfl (by decide +kernel) rfl rfl (Nat.le_of_ble_eq_true rfl) dX3_takeNumber_2 (fun H locs hP hD hS => ?_)
  have hP : va_P D vwCl ((wo_X3 cI cZ rd_h rd_ad tp_h rd_says rd_lines rd_fault rd_faultPlace rd_length rd_place 2 rd_start rd_value) ++ (wo_X6 cI cZ tp_h tp_ad tp_words tp_length)) H := hP
  have hD : va_D A ((wo_X3 cI cZ rd_h rd_ad tp_h rd_says rd_lines rd_fault rd_faultPlace rd_length rd_place 2 rd_start rd_value) ++ (wo_X6 cI cZ tp_h tp_ad tp_words tp_length)) := hD
  refine lv_aload_n hx hb dX3_takeNumber_5 rfl (lv_at hl 0 rfl) ?_
  refine lv_iconst (v := 0) hx hb dX3_takeNumber_6 (by decide) ?_
  refine va_put (D := D) (ci := 3) (v := .int 0) (ty := .int) (C := RX3) (T := TX3) (N := 10) hx hb hts mi_X3_takeNumber_X3 tyX3 tyX3_ok nmX3 hown hK hP hD hS 0 rfl rfl 9 (by decide) (hts (.fieldLink RX3 57 "HiringHall$Reader" "value" "I") (List.mem_of_getElem? (i := 2) rfl)) (fun _ h9 => h9) rfl (by decide +kernel) rfl rfl (Nat.le_of_ble_eq_true rfl) dX3_takeNumber_7 (fun H locs hP hD hS => ?_)
  have hP : va_P D vwCl ((wo_X3 cI cZ rd_h rd_ad tp_h rd_says rd_lines rd_fault rd_faultPlace rd_length rd_place 2 rd_start 0) ++ (wo_X6 cI cZ tp_h tp_ad tp_words tp_length)) H := hP
  have hD : va_D A ((wo_X3 cI cZ rd_h rd_ad tp_h rd_says rd_lines rd_fault rd_faultPlace rd_length rd_place 2 rd_start 0) ++ (wo_X6 cI cZ tp_h tp_ad tp_words tp_length)) := hD
  obtain ⟨n, h⟩ := h
  exact b10  n rd_place 2 0 h _ _ _ hP hD hS (lv_sub hl [0] rfl)
def rm_X3_nextToken : Room := { frames := 6, cells := 0, slots := 0, locals := 128 }
theorem mi_X3_nextToken_X3 : ∀ w ∈ wsX30, w ∈ wsX3_nextToken := fun _ h => List.mem_cons_of_mem _ (List.mem_append_left _ (List.mem_append_right _ h))
set_option maxHeartbeats 4000000 in
set_option maxRecDepth 100000 in
theorem c_X3_nextToken (l : Launch) (D : va_G) (cI cZ : ClassId) (E : (Nat → Nat) × (Nat → Nat)) (rd_h : Nat) (rd_ad : Nat → Nat) (tp_h : Nat) (tp_ad : Nat → Nat) (rd_says : (Nat → Int32)) (rd_lines : Int32) (rd_fault : Int32) (rd_faultPlace : Int32) (rd_length : Int32) (rd_place : Int32) (rd_kind : Int32) (rd_start : Int32) (rd_value : Int32) (tp_words : (Nat → Int32)) (tp_length : Int32)  (K : (Int32 → Int32 → Int32 → Int32 → Prop)) (h : wp_X3_nextToken rd_length rd_place rd_kind rd_start rd_value tp_words tp_length  K) : mk_Cv l D cI cZ E yX3_nextToken wsX3_nextToken rm_X3_nextToken ([.ref rd_h] : List Value) ((wo_X3 cI cZ rd_h rd_ad tp_h rd_says rd_lines rd_fault rd_faultPlace rd_length rd_place rd_kind rd_start rd_value) ++ (wo_X6 cI cZ tp_h tp_ad tp_words tp_length)) (fun (u : Int32 × Int32 × Int32 × Int32) => ((wo_X3 cI cZ rd_h rd_ad tp_h rd_says rd_lines rd_fault rd_faultPlace rd_length u.1 u.2.1 u.2.2.1 u.2.2.2) ++ (wo_X6 cI cZ tp_h tp_ad tp_words tp_length))) (fun (u : Int32 × Int32 × Int32 × Int32) => K u.1 u.2.1 u.2.2.1 u.2.2.2) := by
  intro sz
  refine Met.ofW (cc := cX3_nextToken) (maxL := 2) (ret := none) (by decide) rfl ?_
  intro p e s m args below meth c s₁ B hml hv
  obtain ⟨rfl, hsz, hP, hK, hD0, hN, hE⟩ := hv
  have hx := B.exec
  have hb := B.bytes
  have hr := B.returns
  have hts := atoms_spec (ws := wsX3_nextToken) B.pre
  have hown : s.vm.findClass RX3 = some m.cls := findClass_of_methodNamed B.named
  have hlocks := B.notSynchronized
  subst hsz
  have hD := hD0.self (sz := s.heap.size)
  generalize hAe : va_A ((wo_X3 cI cZ rd_h rd_ad tp_h rd_says rd_lines rd_fault rd_faultPlace rd_length rd_place rd_kind rd_start rd_value) ++ (wo_X6 cI cZ tp_h tp_ad tp_words tp_length)) s.heap.size = A at hD hE ⊢
  have hA : ∀ q : Nat, s.heap.size ≤ q → A q := fun q h => by rw [← hAe]; exact Or.inr h
  have hl := lv_entry ([.ref rd_h] : List Value) (n := 2) (Nat.le_of_ble_eq_true rfl)
  rw [lg_entry_eq]
  generalize (lg_sl ([.ref rd_h] : List Value) ++ List.replicate (2 - (lg_sl ([.ref rd_h] : List Value)).length) Slot.unset).toArray = ls at hl ⊢
  have hl : lv_has ls 2 [(0, .ref rd_h)] := hl
  refine mk_absQ (P := fun Q => W p l e _ s m _ below meth c s.heap [] 0 0 Q _) (fun Q hQ => ?_)
  refine mk_absH (P := fun H => W p l e _ s m _ below meth c H [] 0 0 Q _) (fun H hH => ?_)
  have hP : va_P D vwCl ((wo_X3 cI cZ rd_h rd_ad tp_h rd_says rd_lines rd_fault rd_faultPlace rd_length rd_place rd_kind rd_start rd_value) ++ (wo_X6 cI cZ tp_h tp_ad tp_words tp_length)) H := by rw [hH]; exact hP
  have hS : va_S A s.heap H [] := by rw [hH]; exact va_S.rf
  have b41 : ∀ (rd_place : Int32), wp_X3_nextToken_b41 K rd_length rd_kind rd_value tp_words tp_length rd_place → ∀ (H : Heap) (locs : List Loc) (ls : Array Slot), va_P D vwCl ((wo_X3 cI cZ rd_h rd_ad tp_h rd_says rd_lines rd_fault rd_faultPlace rd_length rd_place rd_kind rd_start rd_value) ++ (wo_X6 cI cZ tp_h tp_ad tp_words tp_length)) H → va_D A ((wo_X3 cI cZ rd_h rd_ad tp_h rd_says rd_lines rd_fault rd_faultPlace rd_length rd_place rd_kind rd_start rd_value) ++ (wo_X6 cI cZ tp_h tp_ad tp_words tp_length)) → va_S A s.heap H locs → lv_has ls 2 [(0, .ref rd_h)] → W p l e (headSpec wsX3_nextToken rm_X3_nextToken).room s m ([.ref rd_h] : List Value).toArray below meth c H locs 0 0 Q (F0 m 41 ls []) := by
    intro rd_place h H locs ls hP hD hS hl
    refine lv_aload_n hx hb dX3_nextToken_41 rfl (lv_at hl 0 rfl) ?_
    refine lv_aload_n hx hb dX3_nextToken_42 rfl (lv_at hl 0 rfl) ?_
    refine va_get (D := D) (ci := 3) (v := .int rd_place) (C := RX3) (T := TX3) (N := 10) hx hb hts mi_X3_nextToken_X3 hown hK hP 0 rfl rfl 6 (by decide) (hts (.fieldLink RX3 38 "HiringHall$Reader" "place" "I") (List.mem_of_getElem? (i := 1) rfl)) (fun _ h9 => h9) rfl dX3_nextToken_43 ?_
    refine va_put (D := D) (ci := 3) (v := .int rd_place) (ty := .int) (C := RX3) (T := TX3) (N := 10) hx hb hts mi_X3_nextToken_X3 tyX3 tyX3_ok nmX3 hown hK hP hD hS 0 rfl rfl 8 (by decide) (hts (.fieldLink RX3 50 "HiringHall$Reader" "start" "I") (List.mem_of_getElem? (i := 4) rfl)) (fun _ h9 => h9) rfl (by decide +kernel) rfl rfl (Nat.le_of_ble_eq_true rfl) dX3_nextToken_46 (fun H locs hP hD hS => ?_)
    have hP : va_P D vwCl ((wo_X3 cI cZ rd_h rd_ad tp_h rd_says rd_lines rd_fault rd_faultPlace rd_length rd_place rd_kind rd_place rd_value) ++ (wo_X6 cI cZ tp_h tp_ad tp_words tp_length)) H := hP
    have hD : va_D A ((wo_X3 cI cZ rd_h rd_ad tp_h rd_says rd_lines rd_fault rd_faultPlace rd_length rd_place rd_kind rd_place rd_value) ++ (wo_X6 cI cZ tp_h tp_ad tp_words tp_length)) := hD
    refine lv_aload_n hx hb dX3_nextToken_49 rfl (lv_at hl 0 rfl) ?_
    refine va_get (D := D) (ci := 3) (v := .int rd_place) (C := RX3) (T := TX3) (N := 10) hx hb hts mi_X3_nextToken_X3 hown hK hP 0 rfl rfl 6 (by decide) (hts (.fieldLink RX3 38 "HiringHall$Reader" "place" "I") (List.mem_of_getElem? (i := 1) rfl)) (fun _ h9 => h9) rfl dX3_nextToken_50 ?_
    refine lv_aload_n hx hb dX3_nextToken_53 rfl (lv_at hl 0 rfl) ?_
    refine va_get (D := D) (ci := 3) (v := .int rd_length) (C := RX3) (T := TX3) (N := 10) hx hb hts mi_X3_nextToken_X3 hown hK hP 0 rfl rfl 5 (by decide) (hts (.fieldLink RX3 35 "HiringHall$Reader" "length" "I") (List.mem_of_getElem? (i := 2) rfl)) (fun _ h9 => h9) rfl dX3_nextToken_54 ?_
    refine lv_icmp_lt (tgt := 66) hx hb dX3_nextToken_57 (by decide) (fun c_1 => ?_) (fun c_1 => ?_)
    · have h := h.1 c_1
      refine lv_aload_n hx hb dX3_nextToken_66 rfl (lv_at hl 0 rfl) ?_
      refine va_get (D := D) (ci := 3) (v := .ref tp_h) (C := RX3) (T := TX3) (N := 10) hx hb hts mi_X3_nextToken_X3 hown hK hP 0 rfl rfl 0 (by decide) (hts (.fieldLink RX3 22 "HiringHall$Reader" "tape" "LHiringHall$Tape;") (List.mem_of_getElem? (i := 3) rfl)) (fun _ h9 => h9) rfl dX3_nextToken_67 ?_
      refine lv_aload_n hx hb dX3_nextToken_70 rfl (lv_at hl 0 rfl) ?_
      refine va_get (D := D) (ci := 3) (v := .int rd_place) (C := RX3) (T := TX3) (N := 10) hx hb hts mi_X3_nextToken_X3 hown hK hP 0 rfl rfl 6 (by decide) (hts (.fieldLink RX3 38 "HiringHall$Reader" "place" "I") (List.mem_of_getElem? (i := 1) rfl)) (fun _ h9 => h9) rfl dX3_nextToken_71 ?_
      have hP : va_P D vwCl ((fun v => (wo_X3 cI cZ rd_h rd_ad tp_h rd_says rd_lines rd_fault rd_faultPlace rd_length rd_place rd_kind rd_place rd_value) ++ v) (wo_X6 cI cZ tp_h tp_ad tp_words tp_length)) H := hP
      have hD : va_D A ((fun v => (wo_X3 cI cZ rd_h rd_ad tp_h rd_says rd_lines rd_fault rd_faultPlace rd_length rd_place rd_kind rd_place rd_value) ++ v) (wo_X6 cI cZ tp_h tp_ad tp_words tp_length)) := hD
      refine mk_ci (f := fun v => (wo_X3 cI cZ rd_h rd_ad tp_h rd_says rd_lines rd_fault rd_faultPlace rd_length rd_place rd_kind rd_place rd_value) ++ v) (mk_fr_end _) (va_runVN (As := [.int rd_place]) (rest := []) ⟨hx, hb, hml, hown, hts⟩ (c_X6_byteAt l D cI cZ E tp_h tp_ad tp_words tp_length rd_place _ h H.size) ⟨va_cnB 1 hts gX3_nextToken_X6_byteAt_n71 rfl rfl rfl (hN.2 (RX3, 71, yX6_byteAt, RX7) (List.mem_of_getElem? (i := 10) rfl)) (hts (.initialized RX6) (List.mem_of_getElem? (i := 7) rfl)) (by decide +kernel) ⟨Nat.le_of_ble_eq_true rfl, Nat.le_of_ble_eq_true rfl⟩, hts (.instanceMethod yX6_byteAt) (List.mem_of_getElem? (i := 6) rfl), hts (.selects RX6 yX6_byteAt yX6_byteAt) (List.mem_of_getElem? (i := 8) rfl)⟩ (mk_preV (ci := 6) (mk_fr_end _) hK hN hE hS hA hP hD rfl rfl) rfl rfl hl.1 rfl (lv_room (Nat.le_of_ble_eq_true rfl)) dX3_nextToken_74 ⟨Nat.le_of_ble_eq_true rfl, Nat.le_of_ble_eq_true rfl⟩) hP hD hS hA (fun r2 u H locs h hP hD hS => ?_)
      try dsimp only at h
      have hP : va_P D vwCl ((wo_X3 cI cZ rd_h rd_ad tp_h rd_says rd_lines rd_fault rd_faultPlace rd_length rd_place rd_kind rd_place rd_value) ++ (wo_X6 cI cZ tp_h tp_ad tp_words tp_length)) H := hP
      have hD : va_D A ((wo_X3 cI cZ rd_h rd_ad tp_h rd_says rd_lines rd_fault rd_faultPlace rd_length rd_place rd_kind rd_place rd_value) ++ (wo_X6 cI cZ tp_h tp_ad tp_words tp_length)) := hD
      refine lv_istore_n (lv' := [(1, .int r2), (0, .ref rd_h)]) hx hb dX3_nextToken_77 rfl hl (by decide) rfl (fun ls hl => ?_)
      refine lv_iload_n hx hb dX3_nextToken_78 rfl (lv_at hl 0 rfl) ?_
      have hP : va_P D vwCl ((fun v => v ++ ((wo_X3 cI cZ rd_h rd_ad tp_h rd_says rd_lines rd_fault rd_faultPlace rd_length rd_place rd_kind rd_place rd_value) ++ (wo_X6 cI cZ tp_h tp_ad tp_words tp_length))) ([] : va_W)) H := hP
      have hD : va_D A ((fun v => v ++ ((wo_X3 cI cZ rd_h rd_ad tp_h rd_says rd_lines rd_fault rd_faultPlace rd_length rd_place rd_kind rd_place rd_value) ++ (wo_X6 cI cZ tp_h tp_ad tp_words tp_length))) ([] : va_W)) := hD
      refine mk_ci (f := fun v => v ++ ((wo_X3 cI cZ rd_h rd_ad tp_h rd_says rd_lines rd_fault rd_faultPlace rd_length rd_place rd_kind rd_place rd_value) ++ (wo_X6 cI cZ tp_h tp_ad tp_words tp_length))) (mk_fr_hd _) (va_runS (As := [.int r2]) (rest := []) ⟨hx, hb, hml, hown, hts⟩ (c_X3_isLetter l D cI cZ E r2 _ h H.size) (va_cwS 1 hts gX3_nextToken_X3_isLetter rfl rfl rfl (by decide +kernel) ⟨Nat.le_of_ble_eq_true rfl, Nat.le_of_ble_eq_true rfl⟩) (mk_preS (mk_fr_hd _) hK hN hE hS hA hP hD) rfl rfl hl.1 rfl (lv_room (Nat.le_of_ble_eq_true rfl)) dX3_nextToken_79 ⟨Nat.le_of_ble_eq_true rfl, Nat.le_of_ble_eq_true rfl⟩) hP hD hS hA (fun r3 u H locs h hP hD hS => ?_)
      try dsimp only at h
      have hP : va_P D vwCl ((wo_X3 cI cZ rd_h rd_ad tp_h rd_says rd_lines rd_fault rd_faultPlace rd_length rd_place rd_kind rd_place rd_value) ++ (wo_X6 cI cZ tp_h tp_ad tp_words tp_length)) H := hP
      have hD : va_D A ((wo_X3 cI cZ rd_h rd_ad tp_h rd_says rd_lines rd_fault rd_faultPlace rd_length rd_place rd_kind rd_place rd_value) ++ (wo_X6 cI cZ tp_h tp_ad tp_words tp_length)) := hD
      refine lv_if_eq (tgt := 92) hx hb dX3_nextToken_82 (by decide) (fun c_4 => ?_) (fun c_4 => ?_)
      · have h := h.1 c_4
        refine lv_iload_n hx hb dX3_nextToken_92 rfl (lv_at hl 0 rfl) ?_
        have hP : va_P D vwCl ((fun v => v ++ ((wo_X3 cI cZ rd_h rd_ad tp_h rd_says rd_lines rd_fault rd_faultPlace rd_length rd_place rd_kind rd_place rd_value) ++ (wo_X6 cI cZ tp_h tp_ad tp_words tp_length))) ([] : va_W)) H := hP
        have hD : va_D A ((fun v => v ++ ((wo_X3 cI cZ rd_h rd_ad tp_h rd_says rd_lines rd_fault rd_faultPlace rd_length rd_place rd_kind rd_place rd_value) ++ (wo_X6 cI cZ tp_h tp_ad tp_words tp_length))) ([] : va_W)) := hD
        refine mk_ci (f := fun v => v ++ ((wo_X3 cI cZ rd_h rd_ad tp_h rd_says rd_lines rd_fault rd_faultPlace rd_length rd_place rd_kind rd_place rd_value) ++ (wo_X6 cI cZ tp_h tp_ad tp_words tp_length))) (mk_fr_hd _) (va_runS (As := [.int r2]) (rest := []) ⟨hx, hb, hml, hown, hts⟩ (c_X3_isDigit l D cI cZ E r2 _ h H.size) (va_cwS 1 hts gX3_nextToken_X3_isDigit rfl rfl rfl (by decide +kernel) ⟨Nat.le_of_ble_eq_true rfl, Nat.le_of_ble_eq_true rfl⟩) (mk_preS (mk_fr_hd _) hK hN hE hS hA hP hD) rfl rfl hl.1 rfl (lv_room (Nat.le_of_ble_eq_true rfl)) dX3_nextToken_93 ⟨Nat.le_of_ble_eq_true rfl, Nat.le_of_ble_eq_true rfl⟩) hP hD hS hA (fun r5 u H locs h hP hD hS => ?_)
        try dsimp only at h
        have hP : va_P D vwCl ((wo_X3 cI cZ rd_h rd_ad tp_h rd_says rd_lines rd_fault rd_faultPlace rd_length rd_place rd_kind rd_place rd_value) ++ (wo_X6 cI cZ tp_h tp_ad tp_words tp_length)) H := hP
        have hD : va_D A ((wo_X3 cI cZ rd_h rd_ad tp_h rd_says rd_lines rd_fault rd_faultPlace rd_length rd_place rd_kind rd_place rd_value) ++ (wo_X6 cI cZ tp_h tp_ad tp_words tp_length)) := hD
        refine lv_if_eq (tgt := 106) hx hb dX3_nextToken_96 (by decide) (fun c_6 => ?_) (fun c_6 => ?_)
        · have h := h.1 c_6
          refine lv_aload_n hx hb dX3_nextToken_106 rfl (lv_at hl 1 rfl) ?_
          refine lv_iload_n hx hb dX3_nextToken_107 rfl (lv_at hl 0 rfl) ?_
          refine lv_bipush (v := 59) hx hb dX3_nextToken_108 (by decide) ?_
          refine lv_icmp_ne (tgt := 117) hx hb dX3_nextToken_110 (by decide) (fun c_7 => ?_) (fun c_7 => ?_)
          · have h := h.1 c_7
            refine lv_iconst (v := 4) hx hb dX3_nextToken_117 (by decide) ?_
            refine va_put (D := D) (ci := 3) (v := .int 4) (ty := .int) (C := RX3) (T := TX3) (N := 10) hx hb hts mi_X3_nextToken_X3 tyX3 tyX3_ok nmX3 hown hK hP hD hS 0 rfl rfl 7 (by decide) (hts (.fieldLink RX3 44 "HiringHall$Reader" "kind" "I") (List.mem_of_getElem? (i := 5) rfl)) (fun _ h9 => h9) rfl (by decide +kernel) rfl rfl (Nat.le_of_ble_eq_true rfl) dX3_nextToken_118 (fun H locs hP hD hS => ?_)
            have hP : va_P D vwCl ((wo_X3 cI cZ rd_h rd_ad tp_h rd_says rd_lines rd_fault rd_faultPlace rd_length rd_place 4 rd_place rd_value) ++ (wo_X6 cI cZ tp_h tp_ad tp_words tp_length)) H := hP
            have hD : va_D A ((wo_X3 cI cZ rd_h rd_ad tp_h rd_says rd_lines rd_fault rd_faultPlace rd_length rd_place 4 rd_place rd_value) ++ (wo_X6 cI cZ tp_h tp_ad tp_words tp_length)) := hD
            refine lv_aload_n hx hb dX3_nextToken_121 rfl (lv_at hl 1 rfl) ?_
            refine lv_dup hx hb dX3_nextToken_122 rfl ?_
            refine va_get (D := D) (ci := 3) (v := .int rd_place) (C := RX3) (T := TX3) (N := 10) hx hb hts mi_X3_nextToken_X3 hown hK hP 0 rfl rfl 6 (by decide) (hts (.fieldLink RX3 38 "HiringHall$Reader" "place" "I") (List.mem_of_getElem? (i := 1) rfl)) (fun _ h9 => h9) rfl dX3_nextToken_123 ?_
            refine lv_iconst (v := 1) hx hb dX3_nextToken_126 (by decide) ?_
            refine lv_iadd hx hb dX3_nextToken_127 ?_
            refine lv_topi (fun y8 e_y8 => ?_)
            have h := h y8 e_y8
            refine va_put (D := D) (ci := 3) (v := .int y8) (ty := .int) (C := RX3) (T := TX3) (N := 10) hx hb hts mi_X3_nextToken_X3 tyX3 tyX3_ok nmX3 hown hK hP hD hS 0 rfl rfl 6 (by decide) (hts (.fieldLink RX3 38 "HiringHall$Reader" "place" "I") (List.mem_of_getElem? (i := 1) rfl)) (fun _ h9 => h9) rfl (by decide +kernel) rfl rfl (Nat.le_of_ble_eq_true rfl) dX3_nextToken_128 (fun H locs hP hD hS => ?_)
            have hP : va_P D vwCl ((wo_X3 cI cZ rd_h rd_ad tp_h rd_says rd_lines rd_fault rd_faultPlace rd_length y8 4 rd_place rd_value) ++ (wo_X6 cI cZ tp_h tp_ad tp_words tp_length)) H := hP
            have hD : va_D A ((wo_X3 cI cZ rd_h rd_ad tp_h rd_says rd_lines rd_fault rd_faultPlace rd_length y8 4 rd_place rd_value) ++ (wo_X6 cI cZ tp_h tp_ad tp_words tp_length)) := hD
            rw [hQ]
            exact W.vret hx hb hr (fun t ht hW => ⟨⟨(y8, 4, rd_place, rd_value), rfl, h, by rw [ht]; exact hP, va_K.moved hW.alike hK, hD⟩, hS.F ht⟩) hS.2.2 dX3_nextToken_131
          · have h := h.2 c_7
            refine lv_iconst (v := 3) hx hb dX3_nextToken_113 (by decide) ?_
            refine lv_goto (tgt := 118) hx hb dX3_nextToken_114 (by decide) ?_
            refine va_put (D := D) (ci := 3) (v := .int 3) (ty := .int) (C := RX3) (T := TX3) (N := 10) hx hb hts mi_X3_nextToken_X3 tyX3 tyX3_ok nmX3 hown hK hP hD hS 0 rfl rfl 7 (by decide) (hts (.fieldLink RX3 44 "HiringHall$Reader" "kind" "I") (List.mem_of_getElem? (i := 5) rfl)) (fun _ h9 => h9) rfl (by decide +kernel) rfl rfl (Nat.le_of_ble_eq_true rfl) dX3_nextToken_118 (fun H locs hP hD hS => ?_)
            have hP : va_P D vwCl ((wo_X3 cI cZ rd_h rd_ad tp_h rd_says rd_lines rd_fault rd_faultPlace rd_length rd_place 3 rd_place rd_value) ++ (wo_X6 cI cZ tp_h tp_ad tp_words tp_length)) H := hP
            have hD : va_D A ((wo_X3 cI cZ rd_h rd_ad tp_h rd_says rd_lines rd_fault rd_faultPlace rd_length rd_place 3 rd_place rd_value) ++ (wo_X6 cI cZ tp_h tp_ad tp_words tp_length)) := hD
            refine lv_aload_n hx hb dX3_nextToken_121 rfl (lv_at hl 1 rfl) ?_
            refine lv_dup hx hb dX3_nextToken_122 rfl ?_
            refine va_get (D := D) (ci := 3) (v := .int rd_place) (C := RX3) (T := TX3) (N := 10) hx hb hts mi_X3_nextToken_X3 hown hK hP 0 rfl rfl 6 (by decide) (hts (.fieldLink RX3 38 "HiringHall$Reader" "place" "I") (List.mem_of_getElem? (i := 1) rfl)) (fun _ h9 => h9) rfl dX3_nextToken_123 ?_
            refine lv_iconst (v := 1) hx hb dX3_nextToken_126 (by decide) ?_
            refine lv_iadd hx hb dX3_nextToken_127 ?_
            refine lv_topi (fun y9 e_y9 => ?_)
            have h := h y9 e_y9
            refine va_put (D := D) (ci := 3) (v := .int y9) (ty := .int) (C := RX3) (T := TX3) (N := 10) hx hb hts mi_X3_nextToken_X3 tyX3 tyX3_ok nmX3 hown hK hP hD hS 0 rfl rfl 6 (by decide) (hts (.fieldLink RX3 38 "HiringHall$Reader" "place" "I") (List.mem_of_getElem? (i := 1) rfl)) (fun _ h9 => h9) rfl (by decide +kernel) rfl rfl (Nat.le_of_ble_eq_true rfl) dX3_nextToken_128 (fun H locs hP hD hS => ?_)
            have hP : va_P D vwCl ((wo_X3 cI cZ rd_h rd_ad tp_h rd_says rd_lines rd_fault rd_faultPlace rd_length y9 3 rd_place rd_value) ++ (wo_X6 cI cZ tp_h tp_ad tp_words tp_length)) H := hP
            have hD : va_D A ((wo_X3 cI cZ rd_h rd_ad tp_h rd_says rd_lines rd_fault rd_faultPlace rd_length y9 3 rd_place rd_value) ++ (wo_X6 cI cZ tp_h tp_ad tp_words tp_length)) := hD
            rw [hQ]
            exact W.vret hx hb hr (fun t ht hW => ⟨⟨(y9, 3, rd_place, rd_value), rfl, h, by rw [ht]; exact hP, va_K.moved hW.alike hK, hD⟩, hS.F ht⟩) hS.2.2 dX3_nextToken_131
        · have h := h.2 c_6
          refine lv_aload_n hx hb dX3_nextToken_99 rfl (lv_at hl 1 rfl) ?_
          have hP : va_P D vwCl ((fun v => v) ((wo_X3 cI cZ rd_h rd_ad tp_h rd_says rd_lines rd_fault rd_faultPlace rd_length rd_place rd_kind rd_place rd_value) ++ (wo_X6 cI cZ tp_h tp_ad tp_words tp_length))) H := hP
          have hD : va_D A ((fun v => v) ((wo_X3 cI cZ rd_h rd_ad tp_h rd_says rd_lines rd_fault rd_faultPlace rd_length rd_place rd_kind rd_place rd_value) ++ (wo_X6 cI cZ tp_h tp_ad tp_words tp_length))) := hD
          refine mk_cv (f := fun v => v) mk_fr_id (va_runV (As := []) (rest := []) ⟨hx, hb, hml, hown, hts⟩ (c_X3_takeNumber l D cI cZ E rd_h rd_ad tp_h tp_ad rd_says rd_lines rd_fault rd_faultPlace rd_length rd_place rd_kind rd_place rd_value tp_words tp_length _ h H.size) (cwV 0 hts gX3_nextToken_X3_takeNumber rfl rfl rfl (by decide +kernel) ⟨Nat.le_of_ble_eq_true rfl, Nat.le_of_ble_eq_true rfl⟩) (mk_preV (ci := 3) mk_fr_id hK hN hE hS hA hP hD rfl rfl) rfl rfl hl.1 rfl (lv_room (Nat.le_of_ble_eq_true rfl)) dX3_nextToken_100 ⟨Nat.le_of_ble_eq_true rfl, Nat.le_of_ble_eq_true rfl⟩) hP hD hS hA (fun u H locs h hP hD hS => ?_)
          obtain ⟨y10, y11, y12⟩ := u
          try dsimp only at h
          have hP : va_P D vwCl ((wo_X3 cI cZ rd_h rd_ad tp_h rd_says rd_lines rd_fault rd_faultPlace rd_length y10 y11 rd_place y12) ++ (wo_X6 cI cZ tp_h tp_ad tp_words tp_length)) H := hP
          have hD : va_D A ((wo_X3 cI cZ rd_h rd_ad tp_h rd_says rd_lines rd_fault rd_faultPlace rd_length y10 y11 rd_place y12) ++ (wo_X6 cI cZ tp_h tp_ad tp_words tp_length)) := hD
          refine lv_goto (tgt := 131) hx hb dX3_nextToken_103 (by decide) ?_
          rw [hQ]
          exact W.vret hx hb hr (fun t ht hW => ⟨⟨(y10, y11, rd_place, y12), rfl, h, by rw [ht]; exact hP, va_K.moved hW.alike hK, hD⟩, hS.F ht⟩) hS.2.2 dX3_nextToken_131
      · have h := h.2 c_4
        refine lv_aload_n hx hb dX3_nextToken_85 rfl (lv_at hl 1 rfl) ?_
        have hP : va_P D vwCl ((fun v => v) ((wo_X3 cI cZ rd_h rd_ad tp_h rd_says rd_lines rd_fault rd_faultPlace rd_length rd_place rd_kind rd_place rd_value) ++ (wo_X6 cI cZ tp_h tp_ad tp_words tp_length))) H := hP
        have hD : va_D A ((fun v => v) ((wo_X3 cI cZ rd_h rd_ad tp_h rd_says rd_lines rd_fault rd_faultPlace rd_length rd_place rd_kind rd_place rd_value) ++ (wo_X6 cI cZ tp_h tp_ad tp_words tp_length))) := hD
        refine mk_cv (f := fun v => v) mk_fr_id (va_runV (As := []) (rest := []) ⟨hx, hb, hml, hown, hts⟩ (c_X3_takeWord l D cI cZ E rd_h rd_ad tp_h tp_ad rd_says rd_lines rd_fault rd_faultPlace rd_length rd_place rd_kind rd_place rd_value tp_words tp_length _ h H.size) (cwV 0 hts gX3_nextToken_X3_takeWord rfl rfl rfl (by decide +kernel) ⟨Nat.le_of_ble_eq_true rfl, Nat.le_of_ble_eq_true rfl⟩) (mk_preV (ci := 3) mk_fr_id hK hN hE hS hA hP hD rfl rfl) rfl rfl hl.1 rfl (lv_room (Nat.le_of_ble_eq_true rfl)) dX3_nextToken_86 ⟨Nat.le_of_ble_eq_true rfl, Nat.le_of_ble_eq_true rfl⟩) hP hD hS hA (fun u H locs h hP hD hS => ?_)
        obtain ⟨y13, y14, y15⟩ := u
        try dsimp only at h
        have hP : va_P D vwCl ((wo_X3 cI cZ rd_h rd_ad tp_h rd_says rd_lines rd_fault rd_faultPlace rd_length y13 y14 rd_place y15) ++ (wo_X6 cI cZ tp_h tp_ad tp_words tp_length)) H := hP
        have hD : va_D A ((wo_X3 cI cZ rd_h rd_ad tp_h rd_says rd_lines rd_fault rd_faultPlace rd_length y13 y14 rd_place y15) ++ (wo_X6 cI cZ tp_h tp_ad tp_words tp_length)) := hD
        refine lv_goto (tgt := 131) hx hb dX3_nextToken_89 (by decide) ?_
        rw [hQ]
        exact W.vret hx hb hr (fun t ht hW => ⟨⟨(y13, y14, rd_place, y15), rfl, h, by rw [ht]; exact hP, va_K.moved hW.alike hK, hD⟩, hS.F ht⟩) hS.2.2 dX3_nextToken_131
    · have h := h.2 c_1
      refine lv_aload_n hx hb dX3_nextToken_60 rfl (lv_at hl 0 rfl) ?_
      refine lv_iconst (v := 0) hx hb dX3_nextToken_61 (by decide) ?_
      refine va_put (D := D) (ci := 3) (v := .int 0) (ty := .int) (C := RX3) (T := TX3) (N := 10) hx hb hts mi_X3_nextToken_X3 tyX3 tyX3_ok nmX3 hown hK hP hD hS 0 rfl rfl 7 (by decide) (hts (.fieldLink RX3 44 "HiringHall$Reader" "kind" "I") (List.mem_of_getElem? (i := 5) rfl)) (fun _ h9 => h9) rfl (by decide +kernel) rfl rfl (Nat.le_of_ble_eq_true rfl) dX3_nextToken_62 (fun H locs hP hD hS => ?_)
      have hP : va_P D vwCl ((wo_X3 cI cZ rd_h rd_ad tp_h rd_says rd_lines rd_fault rd_faultPlace rd_length rd_place 0 rd_place rd_value) ++ (wo_X6 cI cZ tp_h tp_ad tp_words tp_length)) H := hP
      have hD : va_D A ((wo_X3 cI cZ rd_h rd_ad tp_h rd_says rd_lines rd_fault rd_faultPlace rd_length rd_place 0 rd_place rd_value) ++ (wo_X6 cI cZ tp_h tp_ad tp_words tp_length)) := hD
      rw [hQ]
      exact W.vret hx hb hr (fun t ht hW => ⟨⟨(rd_place, 0, rd_place, rd_value), rfl, h, by rw [ht]; exact hP, va_K.moved hW.alike hK, hD⟩, hS.F ht⟩) hS.2.2 dX3_nextToken_65
  have b0 : ∀ (n : Nat), ∀ (rd_place : Int32), wp_X3_nextToken_b0 K rd_length rd_kind rd_value tp_words tp_length n rd_place → ∀ (H : Heap) (locs : List Loc) (ls : Array Slot), va_P D vwCl ((wo_X3 cI cZ rd_h rd_ad tp_h rd_says rd_lines rd_fault rd_faultPlace rd_length rd_place rd_kind rd_start rd_value) ++ (wo_X6 cI cZ tp_h tp_ad tp_words tp_length)) H → va_D A ((wo_X3 cI cZ rd_h rd_ad tp_h rd_says rd_lines rd_fault rd_faultPlace rd_length rd_place rd_kind rd_start rd_value) ++ (wo_X6 cI cZ tp_h tp_ad tp_words tp_length)) → va_S A s.heap H locs → lv_has ls 2 [(0, .ref rd_h)] → W p l e (headSpec wsX3_nextToken rm_X3_nextToken).room s m ([.ref rd_h] : List Value).toArray below meth c H locs 0 0 Q (F0 m 0 ls []) := by
    intro n
    induction n with
    | zero => intro rd_place h; exact False.elim h
    | succ n ih =>
      intro rd_place h H locs ls hP hD hS hl
      refine lv_aload_n hx hb dX3_nextToken_0 rfl (lv_at hl 0 rfl) ?_
      refine va_get (D := D) (ci := 3) (v := .int rd_place) (C := RX3) (T := TX3) (N := 10) hx hb hts mi_X3_nextToken_X3 hown hK hP 0 rfl rfl 6 (by decide) (hts (.fieldLink RX3 38 "HiringHall$Reader" "place" "I") (List.mem_of_getElem? (i := 1) rfl)) (fun _ h9 => h9) rfl dX3_nextToken_1 ?_
      refine lv_aload_n hx hb dX3_nextToken_4 rfl (lv_at hl 0 rfl) ?_
      refine va_get (D := D) (ci := 3) (v := .int rd_length) (C := RX3) (T := TX3) (N := 10) hx hb hts mi_X3_nextToken_X3 hown hK hP 0 rfl rfl 5 (by decide) (hts (.fieldLink RX3 35 "HiringHall$Reader" "length" "I") (List.mem_of_getElem? (i := 2) rfl)) (fun _ h9 => h9) rfl dX3_nextToken_5 ?_
      refine lv_icmp_ge (tgt := 41) hx hb dX3_nextToken_8 (by decide) (fun c_16 => ?_) (fun c_16 => ?_)
      · have h := h.1 c_16
        exact b41  rd_place h _ _ _ hP hD hS (lv_sub hl [0] rfl)
      · have h := h.2 c_16
        refine lv_aload_n hx hb dX3_nextToken_11 rfl (lv_at hl 0 rfl) ?_
        refine va_get (D := D) (ci := 3) (v := .ref tp_h) (C := RX3) (T := TX3) (N := 10) hx hb hts mi_X3_nextToken_X3 hown hK hP 0 rfl rfl 0 (by decide) (hts (.fieldLink RX3 22 "HiringHall$Reader" "tape" "LHiringHall$Tape;") (List.mem_of_getElem? (i := 3) rfl)) (fun _ h9 => h9) rfl dX3_nextToken_12 ?_
        refine lv_aload_n hx hb dX3_nextToken_15 rfl (lv_at hl 0 rfl) ?_
        refine va_get (D := D) (ci := 3) (v := .int rd_place) (C := RX3) (T := TX3) (N := 10) hx hb hts mi_X3_nextToken_X3 hown hK hP 0 rfl rfl 6 (by decide) (hts (.fieldLink RX3 38 "HiringHall$Reader" "place" "I") (List.mem_of_getElem? (i := 1) rfl)) (fun _ h9 => h9) rfl dX3_nextToken_16 ?_
        have hP : va_P D vwCl ((fun v => (wo_X3 cI cZ rd_h rd_ad tp_h rd_says rd_lines rd_fault rd_faultPlace rd_length rd_place rd_kind rd_start rd_value) ++ v) (wo_X6 cI cZ tp_h tp_ad tp_words tp_length)) H := hP
        have hD : va_D A ((fun v => (wo_X3 cI cZ rd_h rd_ad tp_h rd_says rd_lines rd_fault rd_faultPlace rd_length rd_place rd_kind rd_start rd_value) ++ v) (wo_X6 cI cZ tp_h tp_ad tp_words tp_length)) := hD
        refine mk_ci (f := fun v => (wo_X3 cI cZ rd_h rd_ad tp_h rd_says rd_lines rd_fault rd_faultPlace rd_length rd_place rd_kind rd_start rd_value) ++ v) (mk_fr_end _) (va_runVN (As := [.int rd_place]) (rest := []) ⟨hx, hb, hml, hown, hts⟩ (c_X6_byteAt l D cI cZ E tp_h tp_ad tp_words tp_length rd_place _ h H.size) ⟨va_cnB 1 hts gX3_nextToken_X6_byteAt_n71 rfl rfl rfl (hN.2 (RX3, 71, yX6_byteAt, RX7) (List.mem_of_getElem? (i := 10) rfl)) (hts (.initialized RX6) (List.mem_of_getElem? (i := 7) rfl)) (by decide +kernel) ⟨Nat.le_of_ble_eq_true rfl, Nat.le_of_ble_eq_true rfl⟩, hts (.instanceMethod yX6_byteAt) (List.mem_of_getElem? (i := 6) rfl), hts (.selects RX6 yX6_byteAt yX6_byteAt) (List.mem_of_getElem? (i := 8) rfl)⟩ (mk_preV (ci := 6) (mk_fr_end _) hK hN hE hS hA hP hD rfl rfl) rfl rfl hl.1 rfl (lv_room (Nat.le_of_ble_eq_true rfl)) dX3_nextToken_19 ⟨Nat.le_of_ble_eq_true rfl, Nat.le_of_ble_eq_true rfl⟩) hP hD hS hA (fun r17 u H locs h hP hD hS => ?_)
        try dsimp only at h
        have hP : va_P D vwCl ((wo_X3 cI cZ rd_h rd_ad tp_h rd_says rd_lines rd_fault rd_faultPlace rd_length rd_place rd_kind rd_start rd_value) ++ (wo_X6 cI cZ tp_h tp_ad tp_words tp_length)) H := hP
        have hD : va_D A ((wo_X3 cI cZ rd_h rd_ad tp_h rd_says rd_lines rd_fault rd_faultPlace rd_length rd_place rd_kind rd_start rd_value) ++ (wo_X6 cI cZ tp_h tp_ad tp_words tp_length)) := hD
        have hP : va_P D vwCl ((fun v => v ++ ((wo_X3 cI cZ rd_h rd_ad tp_h rd_says rd_lines rd_fault rd_faultPlace rd_length rd_place rd_kind rd_start rd_value) ++ (wo_X6 cI cZ tp_h tp_ad tp_words tp_length))) ([] : va_W)) H := hP
        have hD : va_D A ((fun v => v ++ ((wo_X3 cI cZ rd_h rd_ad tp_h rd_says rd_lines rd_fault rd_faultPlace rd_length rd_place rd_kind rd_start rd_value) ++ (wo_X6 cI cZ tp_h tp_ad tp_words tp_length))) ([] : va_W)) := hD
        refine mk_ci (f := fun v => v ++ ((wo_X3 cI cZ rd_h rd_ad tp_h rd_says rd_lines rd_fault rd_faultPlace rd_length rd_place rd_kind rd_start rd_value) ++ (wo_X6 cI cZ tp_h tp_ad tp_words tp_length))) (mk_fr_hd _) (va_runS (As := [.int r17]) (rest := []) ⟨hx, hb, hml, hown, hts⟩ (c_X3_isBlank l D cI cZ E r17 _ h H.size) (va_cwS 1 hts gX3_nextToken_X3_isBlank rfl rfl rfl (by decide +kernel) ⟨Nat.le_of_ble_eq_true rfl, Nat.le_of_ble_eq_true rfl⟩) (mk_preS (mk_fr_hd _) hK hN hE hS hA hP hD) rfl rfl hl.1 rfl (lv_room (Nat.le_of_ble_eq_true rfl)) dX3_nextToken_22 ⟨Nat.le_of_ble_eq_true rfl, Nat.le_of_ble_eq_true rfl⟩) hP hD hS hA (fun r18 u H locs h hP hD hS => ?_)
        try dsimp only at h
        have hP : va_P D vwCl ((wo_X3 cI cZ rd_h rd_ad tp_h rd_says rd_lines rd_fault rd_faultPlace rd_length rd_place rd_kind rd_start rd_value) ++ (wo_X6 cI cZ tp_h tp_ad tp_words tp_length)) H := hP
        have hD : va_D A ((wo_X3 cI cZ rd_h rd_ad tp_h rd_says rd_lines rd_fault rd_faultPlace rd_length rd_place rd_kind rd_start rd_value) ++ (wo_X6 cI cZ tp_h tp_ad tp_words tp_length)) := hD
        refine lv_if_eq (tgt := 41) hx hb dX3_nextToken_25 (by decide) (fun c_19 => ?_) (fun c_19 => ?_)
        · have h := h.1 c_19
          exact b41  rd_place h _ _ _ hP hD hS (lv_sub hl [0] rfl)
        · have h := h.2 c_19
          refine lv_aload_n hx hb dX3_nextToken_28 rfl (lv_at hl 0 rfl) ?_
          refine lv_dup hx hb dX3_nextToken_29 rfl ?_
          refine va_get (D := D) (ci := 3) (v := .int rd_place) (C := RX3) (T := TX3) (N := 10) hx hb hts mi_X3_nextToken_X3 hown hK hP 0 rfl rfl 6 (by decide) (hts (.fieldLink RX3 38 "HiringHall$Reader" "place" "I") (List.mem_of_getElem? (i := 1) rfl)) (fun _ h9 => h9) rfl dX3_nextToken_30 ?_
          refine lv_iconst (v := 1) hx hb dX3_nextToken_33 (by decide) ?_
          refine lv_iadd hx hb dX3_nextToken_34 ?_
          refine lv_topi (fun y20 e_y20 => ?_)
          have h := h y20 e_y20
          refine va_put (D := D) (ci := 3) (v := .int y20) (ty := .int) (C := RX3) (T := TX3) (N := 10) hx hb hts mi_X3_nextToken_X3 tyX3 tyX3_ok nmX3 hown hK hP hD hS 0 rfl rfl 6 (by decide) (hts (.fieldLink RX3 38 "HiringHall$Reader" "place" "I") (List.mem_of_getElem? (i := 1) rfl)) (fun _ h9 => h9) rfl (by decide +kernel) rfl rfl (Nat.le_of_ble_eq_true rfl) dX3_nextToken_35 (fun H locs hP hD hS => ?_)
          have hP : va_P D vwCl ((wo_X3 cI cZ rd_h rd_ad tp_h rd_says rd_lines rd_fault rd_faultPlace rd_length y20 rd_kind rd_start rd_value) ++ (wo_X6 cI cZ tp_h tp_ad tp_words tp_length)) H := hP
          have hD : va_D A ((wo_X3 cI cZ rd_h rd_ad tp_h rd_says rd_lines rd_fault rd_faultPlace rd_length y20 rd_kind rd_start rd_value) ++ (wo_X6 cI cZ tp_h tp_ad tp_words tp_length)) := hD
          refine lv_goto (tgt := 0) hx hb dX3_nextToken_38 (by decide) ?_
          exact ih y20 h _ _ _ hP hD hS (lv_sub hl [0] rfl)
  obtain ⟨n, h⟩ := h
  exact b0  n rd_place h _ _ _ hP hD hS (lv_sub hl [0] rfl)
def rm_X3_setFault : Room := { frames := 0, cells := 0, slots := 0, locals := 0 }
theorem mi_X3_setFault_X3 : ∀ w ∈ wsX30, w ∈ wsX3_setFault := fun _ h => List.mem_cons_of_mem _ (List.mem_append_right _ h)
set_option maxHeartbeats 4000000 in
set_option maxRecDepth 100000 in
theorem c_X3_setFault (l : Launch) (D : va_G) (cI cZ : ClassId) (E : (Nat → Nat) × (Nat → Nat)) (rd_h : Nat) (rd_ad : Nat → Nat) (tp_h : Nat) (tp_ad : Nat → Nat) (rd_says : (Nat → Int32)) (rd_lines : Int32) (rd_fault : Int32) (rd_faultPlace : Int32) (rd_length : Int32) (rd_place : Int32) (rd_kind : Int32) (rd_start : Int32) (rd_value : Int32) (tp_words : (Nat → Int32)) (tp_length : Int32) (x1 : Int32) (x2 : Int32) (K : (Int32 → Int32 → Prop)) (h : wp_X3_setFault rd_fault rd_faultPlace x1 x2 K) : mk_Cv l D cI cZ E yX3_setFault wsX3_setFault rm_X3_setFault ([.ref rd_h, .int x1, .int x2] : List Value) ((wo_X3 cI cZ rd_h rd_ad tp_h rd_says rd_lines rd_fault rd_faultPlace rd_length rd_place rd_kind rd_start rd_value) ++ (wo_X6 cI cZ tp_h tp_ad tp_words tp_length)) (fun (u : Int32 × Int32) => ((wo_X3 cI cZ rd_h rd_ad tp_h rd_says rd_lines u.1 u.2 rd_length rd_place rd_kind rd_start rd_value) ++ (wo_X6 cI cZ tp_h tp_ad tp_words tp_length))) (fun (u : Int32 × Int32) => K u.1 u.2) := by
  intro sz
  refine Met.ofW (cc := cX3_setFault) (maxL := 3) (ret := none) (by decide) rfl ?_
  intro p e s m args below meth c s₁ B hml hv
  obtain ⟨rfl, hsz, hP, hK, hD0, hN, hE⟩ := hv
  have hx := B.exec
  have hb := B.bytes
  have hr := B.returns
  have hts := atoms_spec (ws := wsX3_setFault) B.pre
  have hown : s.vm.findClass RX3 = some m.cls := findClass_of_methodNamed B.named
  have hlocks := B.notSynchronized
  subst hsz
  have hD := hD0.self (sz := s.heap.size)
  generalize hAe : va_A ((wo_X3 cI cZ rd_h rd_ad tp_h rd_says rd_lines rd_fault rd_faultPlace rd_length rd_place rd_kind rd_start rd_value) ++ (wo_X6 cI cZ tp_h tp_ad tp_words tp_length)) s.heap.size = A at hD hE ⊢
  have hA : ∀ q : Nat, s.heap.size ≤ q → A q := fun q h => by rw [← hAe]; exact Or.inr h
  have hl := lv_entry ([.ref rd_h, .int x1, .int x2] : List Value) (n := 3) (Nat.le_of_ble_eq_true rfl)
  rw [lg_entry_eq]
  generalize (lg_sl ([.ref rd_h, .int x1, .int x2] : List Value) ++ List.replicate (3 - (lg_sl ([.ref rd_h, .int x1, .int x2] : List Value)).length) Slot.unset).toArray = ls at hl ⊢
  have hl : lv_has ls 3 [(0, .ref rd_h), (1, .int x1), (2, .int x2)] := hl
  refine mk_absQ (P := fun Q => W p l e _ s m _ below meth c s.heap [] 0 0 Q _) (fun Q hQ => ?_)
  refine mk_absH (P := fun H => W p l e _ s m _ below meth c H [] 0 0 Q _) (fun H hH => ?_)
  have hP : va_P D vwCl ((wo_X3 cI cZ rd_h rd_ad tp_h rd_says rd_lines rd_fault rd_faultPlace rd_length rd_place rd_kind rd_start rd_value) ++ (wo_X6 cI cZ tp_h tp_ad tp_words tp_length)) H := by rw [hH]; exact hP
  have hS : va_S A s.heap H [] := by rw [hH]; exact va_S.rf
  refine lv_aload_n hx hb dX3_setFault_0 rfl (lv_at hl 0 rfl) ?_
  refine lv_iload_n hx hb dX3_setFault_1 rfl (lv_at hl 1 rfl) ?_
  refine va_put (D := D) (ci := 3) (v := .int x1) (ty := .int) (C := RX3) (T := TX3) (N := 10) hx hb hts mi_X3_setFault_X3 tyX3 tyX3_ok nmX3 hown hK hP hD hS 0 rfl rfl 3 (by decide) (hts (.fieldLink RX3 15 "HiringHall$Reader" "fault" "I") (List.mem_of_getElem? (i := 1) rfl)) (fun _ h9 => h9) rfl (by decide +kernel) rfl rfl (Nat.le_of_ble_eq_true rfl) dX3_setFault_2 (fun H locs hP hD hS => ?_)
  have hP : va_P D vwCl ((wo_X3 cI cZ rd_h rd_ad tp_h rd_says rd_lines x1 rd_faultPlace rd_length rd_place rd_kind rd_start rd_value) ++ (wo_X6 cI cZ tp_h tp_ad tp_words tp_length)) H := hP
  have hD : va_D A ((wo_X3 cI cZ rd_h rd_ad tp_h rd_says rd_lines x1 rd_faultPlace rd_length rd_place rd_kind rd_start rd_value) ++ (wo_X6 cI cZ tp_h tp_ad tp_words tp_length)) := hD
  refine lv_aload_n hx hb dX3_setFault_5 rfl (lv_at hl 0 rfl) ?_
  refine lv_iload_n hx hb dX3_setFault_6 rfl (lv_at hl 2 rfl) ?_
  refine va_put (D := D) (ci := 3) (v := .int x2) (ty := .int) (C := RX3) (T := TX3) (N := 10) hx hb hts mi_X3_setFault_X3 tyX3 tyX3_ok nmX3 hown hK hP hD hS 0 rfl rfl 4 (by decide) (hts (.fieldLink RX3 19 "HiringHall$Reader" "faultPlace" "I") (List.mem_of_getElem? (i := 2) rfl)) (fun _ h9 => h9) rfl (by decide +kernel) rfl rfl (Nat.le_of_ble_eq_true rfl) dX3_setFault_7 (fun H locs hP hD hS => ?_)
  have hP : va_P D vwCl ((wo_X3 cI cZ rd_h rd_ad tp_h rd_says rd_lines x1 x2 rd_length rd_place rd_kind rd_start rd_value) ++ (wo_X6 cI cZ tp_h tp_ad tp_words tp_length)) H := hP
  have hD : va_D A ((wo_X3 cI cZ rd_h rd_ad tp_h rd_says rd_lines x1 x2 rd_length rd_place rd_kind rd_start rd_value) ++ (wo_X6 cI cZ tp_h tp_ad tp_words tp_length)) := hD
  rw [hQ]
  exact W.vret hx hb hr (fun t ht hW => ⟨⟨(x1, x2), rfl, h, by rw [ht]; exact hP, va_K.moved hW.alike hK, hD⟩, hS.F ht⟩) hS.2.2 dX3_setFault_10
def rm_X3_isKind : Room := { frames := 1, cells := 0, slots := 0, locals := 22 }
theorem mi_X3_isKind_X3 : ∀ w ∈ wsX30, w ∈ wsX3_isKind := fun _ h => List.mem_cons_of_mem _ (List.mem_append_right _ h)
set_option maxHeartbeats 4000000 in
set_option maxRecDepth 100000 in
theorem c_X3_isKind (l : Launch) (D : va_G) (cI cZ : ClassId) (E : (Nat → Nat) × (Nat → Nat)) (rd_h : Nat) (rd_ad : Nat → Nat) (tp_h : Nat) (tp_ad : Nat → Nat) (rd_says : (Nat → Int32)) (rd_lines : Int32) (rd_fault : Int32) (rd_faultPlace : Int32) (rd_length : Int32) (rd_place : Int32) (rd_kind : Int32) (rd_start : Int32) (rd_value : Int32) (tp_words : (Nat → Int32)) (tp_length : Int32) (x1 : Int32) (K : (Int32 → Int32 → Int32 → Prop)) (h : wp_X3_isKind rd_fault rd_faultPlace rd_kind rd_start x1 K) : mk_Ci l D cI cZ E yX3_isKind wsX3_isKind rm_X3_isKind ([.ref rd_h, .int x1] : List Value) ((wo_X3 cI cZ rd_h rd_ad tp_h rd_says rd_lines rd_fault rd_faultPlace rd_length rd_place rd_kind rd_start rd_value) ++ (wo_X6 cI cZ tp_h tp_ad tp_words tp_length)) (fun (u : Int32 × Int32) => ((wo_X3 cI cZ rd_h rd_ad tp_h rd_says rd_lines u.1 u.2 rd_length rd_place rd_kind rd_start rd_value) ++ (wo_X6 cI cZ tp_h tp_ad tp_words tp_length))) (fun (r : Int32) (u : Int32 × Int32) => K r u.1 u.2) := by
  intro sz
  refine Met.ofW (cc := cX3_isKind) (maxL := 2) (ret := (some .boolean)) (by decide) rfl ?_
  intro p e s m args below meth c s₁ B hml hv
  obtain ⟨rfl, hsz, hP, hK, hD0, hN, hE⟩ := hv
  have hx := B.exec
  have hb := B.bytes
  have hr := B.returns
  have hts := atoms_spec (ws := wsX3_isKind) B.pre
  have hown : s.vm.findClass RX3 = some m.cls := findClass_of_methodNamed B.named
  have hlocks := B.notSynchronized
  subst hsz
  have hD := hD0.self (sz := s.heap.size)
  generalize hAe : va_A ((wo_X3 cI cZ rd_h rd_ad tp_h rd_says rd_lines rd_fault rd_faultPlace rd_length rd_place rd_kind rd_start rd_value) ++ (wo_X6 cI cZ tp_h tp_ad tp_words tp_length)) s.heap.size = A at hD hE ⊢
  have hA : ∀ q : Nat, s.heap.size ≤ q → A q := fun q h => by rw [← hAe]; exact Or.inr h
  have hl := lv_entry ([.ref rd_h, .int x1] : List Value) (n := 2) (Nat.le_of_ble_eq_true rfl)
  rw [lg_entry_eq]
  generalize (lg_sl ([.ref rd_h, .int x1] : List Value) ++ List.replicate (2 - (lg_sl ([.ref rd_h, .int x1] : List Value)).length) Slot.unset).toArray = ls at hl ⊢
  have hl : lv_has ls 2 [(0, .ref rd_h), (1, .int x1)] := hl
  refine mk_absQ (P := fun Q => W p l e _ s m _ below meth c s.heap [] 0 0 Q _) (fun Q hQ => ?_)
  refine mk_absH (P := fun H => W p l e _ s m _ below meth c H [] 0 0 Q _) (fun H hH => ?_)
  have hP : va_P D vwCl ((wo_X3 cI cZ rd_h rd_ad tp_h rd_says rd_lines rd_fault rd_faultPlace rd_length rd_place rd_kind rd_start rd_value) ++ (wo_X6 cI cZ tp_h tp_ad tp_words tp_length)) H := by rw [hH]; exact hP
  have hS : va_S A s.heap H [] := by rw [hH]; exact va_S.rf
  refine lv_aload_n hx hb dX3_isKind_0 rfl (lv_at hl 0 rfl) ?_
  refine va_get (D := D) (ci := 3) (v := .int rd_kind) (C := RX3) (T := TX3) (N := 10) hx hb hts mi_X3_isKind_X3 hown hK hP 0 rfl rfl 7 (by decide) (hts (.fieldLink RX3 44 "HiringHall$Reader" "kind" "I") (List.mem_of_getElem? (i := 1) rfl)) (fun _ h9 => h9) rfl dX3_isKind_1 ?_
  refine lv_iload_n hx hb dX3_isKind_4 rfl (lv_at hl 1 rfl) ?_
  refine lv_icmp_eq (tgt := 19) hx hb dX3_isKind_5 (by decide) (fun c_1 => ?_) (fun c_1 => ?_)
  · have h := h.1 c_1
    refine lv_iconst (v := 1) hx hb dX3_isKind_19 (by decide) ?_
    rw [hQ]
    exact W.zret (v := 1) hx hb hr rfl (fun t ht hW => ⟨⟨1, (rd_fault, rd_faultPlace), rfl, h, by rw [ht]; exact hP, va_K.moved hW.alike hK, hD⟩, hS.F ht⟩) hS.2.2 dX3_isKind_20
  · have h := h.2 c_1
    refine lv_aload_n hx hb dX3_isKind_8 rfl (lv_at hl 0 rfl) ?_
    refine lv_iconst (v := 1) hx hb dX3_isKind_9 (by decide) ?_
    refine lv_aload_n hx hb dX3_isKind_10 rfl (lv_at hl 0 rfl) ?_
    refine va_get (D := D) (ci := 3) (v := .int rd_start) (C := RX3) (T := TX3) (N := 10) hx hb hts mi_X3_isKind_X3 hown hK hP 0 rfl rfl 8 (by decide) (hts (.fieldLink RX3 50 "HiringHall$Reader" "start" "I") (List.mem_of_getElem? (i := 2) rfl)) (fun _ h9 => h9) rfl dX3_isKind_11 ?_
    have hP : va_P D vwCl ((fun v => v) ((wo_X3 cI cZ rd_h rd_ad tp_h rd_says rd_lines rd_fault rd_faultPlace rd_length rd_place rd_kind rd_start rd_value) ++ (wo_X6 cI cZ tp_h tp_ad tp_words tp_length))) H := hP
    have hD : va_D A ((fun v => v) ((wo_X3 cI cZ rd_h rd_ad tp_h rd_says rd_lines rd_fault rd_faultPlace rd_length rd_place rd_kind rd_start rd_value) ++ (wo_X6 cI cZ tp_h tp_ad tp_words tp_length))) := hD
    refine mk_cv (f := fun v => v) mk_fr_id (va_runV (As := [.int 1, .int rd_start]) (rest := []) ⟨hx, hb, hml, hown, hts⟩ (c_X3_setFault l D cI cZ E rd_h rd_ad tp_h tp_ad rd_says rd_lines rd_fault rd_faultPlace rd_length rd_place rd_kind rd_start rd_value tp_words tp_length 1 rd_start _ h H.size) (cwV 2 hts gX3_isKind_X3_setFault rfl rfl rfl (by decide +kernel) ⟨Nat.le_of_ble_eq_true rfl, Nat.le_of_ble_eq_true rfl⟩) (mk_preV (ci := 3) mk_fr_id hK hN hE hS hA hP hD rfl rfl) rfl rfl hl.1 rfl (lv_room (Nat.le_of_ble_eq_true rfl)) dX3_isKind_14 ⟨Nat.le_of_ble_eq_true rfl, Nat.le_of_ble_eq_true rfl⟩) hP hD hS hA (fun u H locs h hP hD hS => ?_)
    obtain ⟨y2, y3⟩ := u
    try dsimp only at h
    have hP : va_P D vwCl ((wo_X3 cI cZ rd_h rd_ad tp_h rd_says rd_lines y2 y3 rd_length rd_place rd_kind rd_start rd_value) ++ (wo_X6 cI cZ tp_h tp_ad tp_words tp_length)) H := hP
    have hD : va_D A ((wo_X3 cI cZ rd_h rd_ad tp_h rd_says rd_lines y2 y3 rd_length rd_place rd_kind rd_start rd_value) ++ (wo_X6 cI cZ tp_h tp_ad tp_words tp_length)) := hD
    refine lv_iconst (v := 0) hx hb dX3_isKind_17 (by decide) ?_
    rw [hQ]
    exact W.zret (v := 0) hx hb hr rfl (fun t ht hW => ⟨⟨0, (y2, y3), rfl, h, by rw [ht]; exact hP, va_K.moved hW.alike hK, hD⟩, hS.F ht⟩) hS.2.2 dX3_isKind_18
def rm_X3_isNumberUpTo : Room := { frames := 2, cells := 0, slots := 0, locals := 43 }
theorem mi_X3_isNumberUpTo_X3 : ∀ w ∈ wsX30, w ∈ wsX3_isNumberUpTo := fun _ h => List.mem_cons_of_mem _ (List.mem_append_right _ h)
set_option maxHeartbeats 4000000 in
set_option maxRecDepth 100000 in
theorem c_X3_isNumberUpTo (l : Launch) (D : va_G) (cI cZ : ClassId) (E : (Nat → Nat) × (Nat → Nat)) (rd_h : Nat) (rd_ad : Nat → Nat) (tp_h : Nat) (tp_ad : Nat → Nat) (rd_says : (Nat → Int32)) (rd_lines : Int32) (rd_fault : Int32) (rd_faultPlace : Int32) (rd_length : Int32) (rd_place : Int32) (rd_kind : Int32) (rd_start : Int32) (rd_value : Int32) (tp_words : (Nat → Int32)) (tp_length : Int32) (x1 : Int32) (K : (Int32 → Int32 → Int32 → Prop)) (h : wp_X3_isNumberUpTo rd_fault rd_faultPlace rd_kind rd_start rd_value x1 K) : mk_Ci l D cI cZ E yX3_isNumberUpTo wsX3_isNumberUpTo rm_X3_isNumberUpTo ([.ref rd_h, .int x1] : List Value) ((wo_X3 cI cZ rd_h rd_ad tp_h rd_says rd_lines rd_fault rd_faultPlace rd_length rd_place rd_kind rd_start rd_value) ++ (wo_X6 cI cZ tp_h tp_ad tp_words tp_length)) (fun (u : Int32 × Int32) => ((wo_X3 cI cZ rd_h rd_ad tp_h rd_says rd_lines u.1 u.2 rd_length rd_place rd_kind rd_start rd_value) ++ (wo_X6 cI cZ tp_h tp_ad tp_words tp_length))) (fun (r : Int32) (u : Int32 × Int32) => K r u.1 u.2) := by
  intro sz
  refine Met.ofW (cc := cX3_isNumberUpTo) (maxL := 2) (ret := (some .boolean)) (by decide) rfl ?_
  intro p e s m args below meth c s₁ B hml hv
  obtain ⟨rfl, hsz, hP, hK, hD0, hN, hE⟩ := hv
  have hx := B.exec
  have hb := B.bytes
  have hr := B.returns
  have hts := atoms_spec (ws := wsX3_isNumberUpTo) B.pre
  have hown : s.vm.findClass RX3 = some m.cls := findClass_of_methodNamed B.named
  have hlocks := B.notSynchronized
  subst hsz
  have hD := hD0.self (sz := s.heap.size)
  generalize hAe : va_A ((wo_X3 cI cZ rd_h rd_ad tp_h rd_says rd_lines rd_fault rd_faultPlace rd_length rd_place rd_kind rd_start rd_value) ++ (wo_X6 cI cZ tp_h tp_ad tp_words tp_length)) s.heap.size = A at hD hE ⊢
  have hA : ∀ q : Nat, s.heap.size ≤ q → A q := fun q h => by rw [← hAe]; exact Or.inr h
  have hl := lv_entry ([.ref rd_h, .int x1] : List Value) (n := 2) (Nat.le_of_ble_eq_true rfl)
  rw [lg_entry_eq]
  generalize (lg_sl ([.ref rd_h, .int x1] : List Value) ++ List.replicate (2 - (lg_sl ([.ref rd_h, .int x1] : List Value)).length) Slot.unset).toArray = ls at hl ⊢
  have hl : lv_has ls 2 [(0, .ref rd_h), (1, .int x1)] := hl
  refine mk_absQ (P := fun Q => W p l e _ s m _ below meth c s.heap [] 0 0 Q _) (fun Q hQ => ?_)
  refine mk_absH (P := fun H => W p l e _ s m _ below meth c H [] 0 0 Q _) (fun H hH => ?_)
  have hP : va_P D vwCl ((wo_X3 cI cZ rd_h rd_ad tp_h rd_says rd_lines rd_fault rd_faultPlace rd_length rd_place rd_kind rd_start rd_value) ++ (wo_X6 cI cZ tp_h tp_ad tp_words tp_length)) H := by rw [hH]; exact hP
  have hS : va_S A s.heap H [] := by rw [hH]; exact va_S.rf
  refine lv_aload_n hx hb dX3_isNumberUpTo_0 rfl (lv_at hl 0 rfl) ?_
  refine lv_iconst (v := 2) hx hb dX3_isNumberUpTo_1 (by decide) ?_
  have hP : va_P D vwCl ((fun v => v) ((wo_X3 cI cZ rd_h rd_ad tp_h rd_says rd_lines rd_fault rd_faultPlace rd_length rd_place rd_kind rd_start rd_value) ++ (wo_X6 cI cZ tp_h tp_ad tp_words tp_length))) H := hP
  have hD : va_D A ((fun v => v) ((wo_X3 cI cZ rd_h rd_ad tp_h rd_says rd_lines rd_fault rd_faultPlace rd_length rd_place rd_kind rd_start rd_value) ++ (wo_X6 cI cZ tp_h tp_ad tp_words tp_length))) := hD
  refine mk_ci (f := fun v => v) mk_fr_id (va_runV (As := [.int 2]) (rest := []) ⟨hx, hb, hml, hown, hts⟩ (c_X3_isKind l D cI cZ E rd_h rd_ad tp_h tp_ad rd_says rd_lines rd_fault rd_faultPlace rd_length rd_place rd_kind rd_start rd_value tp_words tp_length 2 _ h H.size) (cwV 1 hts gX3_isNumberUpTo_X3_isKind rfl rfl rfl (by decide +kernel) ⟨Nat.le_of_ble_eq_true rfl, Nat.le_of_ble_eq_true rfl⟩) (mk_preV (ci := 3) mk_fr_id hK hN hE hS hA hP hD rfl rfl) rfl rfl hl.1 rfl (lv_room (Nat.le_of_ble_eq_true rfl)) dX3_isNumberUpTo_2 ⟨Nat.le_of_ble_eq_true rfl, Nat.le_of_ble_eq_true rfl⟩) hP hD hS hA (fun r1 u H locs h hP hD hS => ?_)
  obtain ⟨y2, y3⟩ := u
  try dsimp only at h
  have hP : va_P D vwCl ((wo_X3 cI cZ rd_h rd_ad tp_h rd_says rd_lines y2 y3 rd_length rd_place rd_kind rd_start rd_value) ++ (wo_X6 cI cZ tp_h tp_ad tp_words tp_length)) H := hP
  have hD : va_D A ((wo_X3 cI cZ rd_h rd_ad tp_h rd_says rd_lines y2 y3 rd_length rd_place rd_kind rd_start rd_value) ++ (wo_X6 cI cZ tp_h tp_ad tp_words tp_length)) := hD
  refine lv_if_ne (tgt := 10) hx hb dX3_isNumberUpTo_5 (by decide) (fun c_4 => ?_) (fun c_4 => ?_)
  · have h := h.1 c_4
    refine lv_aload_n hx hb dX3_isNumberUpTo_10 rfl (lv_at hl 0 rfl) ?_
    refine va_get (D := D) (ci := 3) (v := .int rd_value) (C := RX3) (T := TX3) (N := 10) hx hb hts mi_X3_isNumberUpTo_X3 hown hK hP 0 rfl rfl 9 (by decide) (hts (.fieldLink RX3 57 "HiringHall$Reader" "value" "I") (List.mem_of_getElem? (i := 1) rfl)) (fun _ h9 => h9) rfl dX3_isNumberUpTo_11 ?_
    refine lv_iload_n hx hb dX3_isNumberUpTo_14 rfl (lv_at hl 1 rfl) ?_
    refine lv_icmp_le (tgt := 29) hx hb dX3_isNumberUpTo_15 (by decide) (fun c_5 => ?_) (fun c_5 => ?_)
    · have h := h.1 c_5
      refine lv_iconst (v := 1) hx hb dX3_isNumberUpTo_29 (by decide) ?_
      rw [hQ]
      exact W.zret (v := 1) hx hb hr rfl (fun t ht hW => ⟨⟨1, (y2, y3), rfl, h, by rw [ht]; exact hP, va_K.moved hW.alike hK, hD⟩, hS.F ht⟩) hS.2.2 dX3_isNumberUpTo_30
    · have h := h.2 c_5
      refine lv_aload_n hx hb dX3_isNumberUpTo_18 rfl (lv_at hl 0 rfl) ?_
      refine lv_iconst (v := 2) hx hb dX3_isNumberUpTo_19 (by decide) ?_
      refine lv_aload_n hx hb dX3_isNumberUpTo_20 rfl (lv_at hl 0 rfl) ?_
      refine va_get (D := D) (ci := 3) (v := .int rd_start) (C := RX3) (T := TX3) (N := 10) hx hb hts mi_X3_isNumberUpTo_X3 hown hK hP 0 rfl rfl 8 (by decide) (hts (.fieldLink RX3 50 "HiringHall$Reader" "start" "I") (List.mem_of_getElem? (i := 2) rfl)) (fun _ h9 => h9) rfl dX3_isNumberUpTo_21 ?_
      have hP : va_P D vwCl ((fun v => v) ((wo_X3 cI cZ rd_h rd_ad tp_h rd_says rd_lines y2 y3 rd_length rd_place rd_kind rd_start rd_value) ++ (wo_X6 cI cZ tp_h tp_ad tp_words tp_length))) H := hP
      have hD : va_D A ((fun v => v) ((wo_X3 cI cZ rd_h rd_ad tp_h rd_says rd_lines y2 y3 rd_length rd_place rd_kind rd_start rd_value) ++ (wo_X6 cI cZ tp_h tp_ad tp_words tp_length))) := hD
      refine mk_cv (f := fun v => v) mk_fr_id (va_runV (As := [.int 2, .int rd_start]) (rest := []) ⟨hx, hb, hml, hown, hts⟩ (c_X3_setFault l D cI cZ E rd_h rd_ad tp_h tp_ad rd_says rd_lines y2 y3 rd_length rd_place rd_kind rd_start rd_value tp_words tp_length 2 rd_start _ h H.size) (cwV 2 hts gX3_isNumberUpTo_X3_setFault rfl rfl rfl (by decide +kernel) ⟨Nat.le_of_ble_eq_true rfl, Nat.le_of_ble_eq_true rfl⟩) (mk_preV (ci := 3) mk_fr_id hK hN hE hS hA hP hD rfl rfl) rfl rfl hl.1 rfl (lv_room (Nat.le_of_ble_eq_true rfl)) dX3_isNumberUpTo_24 ⟨Nat.le_of_ble_eq_true rfl, Nat.le_of_ble_eq_true rfl⟩) hP hD hS hA (fun u H locs h hP hD hS => ?_)
      obtain ⟨y6, y7⟩ := u
      try dsimp only at h
      have hP : va_P D vwCl ((wo_X3 cI cZ rd_h rd_ad tp_h rd_says rd_lines y6 y7 rd_length rd_place rd_kind rd_start rd_value) ++ (wo_X6 cI cZ tp_h tp_ad tp_words tp_length)) H := hP
      have hD : va_D A ((wo_X3 cI cZ rd_h rd_ad tp_h rd_says rd_lines y6 y7 rd_length rd_place rd_kind rd_start rd_value) ++ (wo_X6 cI cZ tp_h tp_ad tp_words tp_length)) := hD
      refine lv_iconst (v := 0) hx hb dX3_isNumberUpTo_27 (by decide) ?_
      rw [hQ]
      exact W.zret (v := 0) hx hb hr rfl (fun t ht hW => ⟨⟨0, (y6, y7), rfl, h, by rw [ht]; exact hP, va_K.moved hW.alike hK, hD⟩, hS.F ht⟩) hS.2.2 dX3_isNumberUpTo_28
  · have h := h.2 c_4
    refine lv_iconst (v := 0) hx hb dX3_isNumberUpTo_8 (by decide) ?_
    rw [hQ]
    exact W.zret (v := 0) hx hb hr rfl (fun t ht hW => ⟨⟨0, (y2, y3), rfl, h, by rw [ht]; exact hP, va_K.moved hW.alike hK, hD⟩, hS.F ht⟩) hS.2.2 dX3_isNumberUpTo_9
def rm_X3_mostOf : Room := { frames := 0, cells := 0, slots := 0, locals := 0 }
set_option maxHeartbeats 4000000 in
set_option maxRecDepth 100000 in
theorem c_X3_mostOf (l : Launch) (D : va_G) (cI cZ : ClassId) (E : (Nat → Nat) × (Nat → Nat))   (x0 : Int32) (K : (Int32 → Prop)) (h : wp_X3_mostOf  x0 K) : mk_Ci l D cI cZ E yX3_mostOf wsX3_mostOf rm_X3_mostOf ([.int x0] : List Value) ([] : va_W) (fun (u : Unit) => ([] : va_W)) (fun (r : Int32) (u : Unit) => K r) := by
  intro sz
  refine Met.ofW (cc := cX3_mostOf) (maxL := 1) (ret := (some .int)) (by decide) rfl ?_
  intro p e s m args below meth c s₁ B hml hv
  obtain ⟨rfl, hsz, hP, hK, hD0, hN, hE⟩ := hv
  have hx := B.exec
  have hb := B.bytes
  have hr := B.returns
  have hts := atoms_spec (ws := wsX3_mostOf) B.pre
  have hown : s.vm.findClass RX3 = some m.cls := findClass_of_methodNamed B.named
  have hlocks := B.notSynchronized
  subst hsz
  have hD := hD0.self (sz := s.heap.size)
  generalize hAe : va_A ([] : va_W) s.heap.size = A at hD hE ⊢
  have hA : ∀ q : Nat, s.heap.size ≤ q → A q := fun q h => by rw [← hAe]; exact Or.inr h
  have hl := lv_entry ([.int x0] : List Value) (n := 1) (Nat.le_of_ble_eq_true rfl)
  rw [lg_entry_eq]
  generalize (lg_sl ([.int x0] : List Value) ++ List.replicate (1 - (lg_sl ([.int x0] : List Value)).length) Slot.unset).toArray = ls at hl ⊢
  have hl : lv_has ls 1 [(0, .int x0)] := hl
  refine mk_absQ (P := fun Q => W p l e _ s m _ below meth c s.heap [] 0 0 Q _) (fun Q hQ => ?_)
  refine mk_absH (P := fun H => W p l e _ s m _ below meth c H [] 0 0 Q _) (fun H hH => ?_)
  have hP : va_P D vwCl ([] : va_W) H := by rw [hH]; exact hP
  have hS : va_S A s.heap H [] := by rw [hH]; exact va_S.rf
  refine lv_iload_n hx hb dX3_mostOf_0 rfl (lv_at hl 0 rfl) ?_
  refine lv_iconst (v := 3) hx hb dX3_mostOf_1 (by decide) ?_
  refine lv_icmp_eq (tgt := 10) hx hb dX3_mostOf_2 (by decide) (fun c_1 => ?_) (fun c_1 => ?_)
  · have h := h.1 c_1
    refine lv_iconst (v := 1) hx hb dX3_mostOf_10 (by decide) ?_
    refine lv_goto (tgt := 17) hx hb dX3_mostOf_11 (by decide) ?_
    rw [hQ]
    exact W.iret (v := 1) hx hb hr (fun t ht hW => ⟨⟨1, (), rfl, h, by rw [ht]; exact hP, va_K.moved hW.alike hK, hD⟩, hS.F ht⟩) hS.2.2 dX3_mostOf_17
  · have h := h.2 c_1
    refine lv_iload_n hx hb dX3_mostOf_5 rfl (lv_at hl 0 rfl) ?_
    refine lv_iconst (v := 4) hx hb dX3_mostOf_6 (by decide) ?_
    refine lv_icmp_ne (tgt := 14) hx hb dX3_mostOf_7 (by decide) (fun c_2 => ?_) (fun c_2 => ?_)
    · have h := h.1 c_2
      refine lv_sipush (v := 999) hx hb dX3_mostOf_14 (by decide) ?_
      rw [hQ]
      exact W.iret (v := 999) hx hb hr (fun t ht hW => ⟨⟨999, (), rfl, h, by rw [ht]; exact hP, va_K.moved hW.alike hK, hD⟩, hS.F ht⟩) hS.2.2 dX3_mostOf_17
    · have h := h.2 c_2
      refine lv_iconst (v := 1) hx hb dX3_mostOf_10 (by decide) ?_
      refine lv_goto (tgt := 17) hx hb dX3_mostOf_11 (by decide) ?_
      rw [hQ]
      exact W.iret (v := 1) hx hb hr (fun t ht hW => ⟨⟨1, (), rfl, h, by rw [ht]; exact hP, va_K.moved hW.alike hK, hD⟩, hS.F ht⟩) hS.2.2 dX3_mostOf_17
def rm_X3_readLine : Room := { frames := 7, cells := 0, slots := 0, locals := 149 }
theorem mi_X3_readLine_X3 : ∀ w ∈ wsX30, w ∈ wsX3_readLine := fun _ h => List.mem_cons_of_mem _ (List.mem_append_left _ (List.mem_append_right _ h))
set_option maxHeartbeats 4000000 in
set_option maxRecDepth 100000 in
theorem c_X3_readLine (l : Launch) (D : va_G) (cI cZ : ClassId) (E : (Nat → Nat) × (Nat → Nat)) (rd_h : Nat) (rd_ad : Nat → Nat) (tp_h : Nat) (tp_ad : Nat → Nat) (rd_says : (Nat → Int32)) (rd_lines : Int32) (rd_fault : Int32) (rd_faultPlace : Int32) (rd_length : Int32) (rd_place : Int32) (rd_kind : Int32) (rd_start : Int32) (rd_value : Int32) (tp_words : (Nat → Int32)) (tp_length : Int32)  (K : ((Nat → Int32) → Int32 → Int32 → Int32 → Int32 → Int32 → Int32 → Int32 → Prop)) (h : wp_X3_readLine rd_says rd_lines rd_fault rd_faultPlace rd_length rd_place rd_kind rd_start rd_value tp_words tp_length  K) : mk_Cv l D cI cZ E yX3_readLine wsX3_readLine rm_X3_readLine ([.ref rd_h] : List Value) ((wo_X3 cI cZ rd_h rd_ad tp_h rd_says rd_lines rd_fault rd_faultPlace rd_length rd_place rd_kind rd_start rd_value) ++ (wo_X6 cI cZ tp_h tp_ad tp_words tp_length)) (fun (u : (Nat → Int32) × Int32 × Int32 × Int32 × Int32 × Int32 × Int32 × Int32) => ((wo_X3 cI cZ rd_h rd_ad tp_h u.1 u.2.1 u.2.2.1 u.2.2.2.1 rd_length u.2.2.2.2.1 u.2.2.2.2.2.1 u.2.2.2.2.2.2.1 u.2.2.2.2.2.2.2) ++ (wo_X6 cI cZ tp_h tp_ad tp_words tp_length))) (fun (u : (Nat → Int32) × Int32 × Int32 × Int32 × Int32 × Int32 × Int32 × Int32) => K u.1 u.2.1 u.2.2.1 u.2.2.2.1 u.2.2.2.2.1 u.2.2.2.2.2.1 u.2.2.2.2.2.2.1 u.2.2.2.2.2.2.2) := by
  intro sz
  refine Met.ofW (cc := cX3_readLine) (maxL := 3) (ret := none) (by decide) rfl ?_
  intro p e s m args below meth c s₁ B hml hv
  obtain ⟨rfl, hsz, hP, hK, hD0, hN, hE⟩ := hv
  have hx := B.exec
  have hb := B.bytes
  have hr := B.returns
  have hts := atoms_spec (ws := wsX3_readLine) B.pre
  have hown : s.vm.findClass RX3 = some m.cls := findClass_of_methodNamed B.named
  have hlocks := B.notSynchronized
  subst hsz
  have hD := hD0.self (sz := s.heap.size)
  generalize hAe : va_A ((wo_X3 cI cZ rd_h rd_ad tp_h rd_says rd_lines rd_fault rd_faultPlace rd_length rd_place rd_kind rd_start rd_value) ++ (wo_X6 cI cZ tp_h tp_ad tp_words tp_length)) s.heap.size = A at hD hE ⊢
  have hA : ∀ q : Nat, s.heap.size ≤ q → A q := fun q h => by rw [← hAe]; exact Or.inr h
  have hl := lv_entry ([.ref rd_h] : List Value) (n := 3) (Nat.le_of_ble_eq_true rfl)
  rw [lg_entry_eq]
  generalize (lg_sl ([.ref rd_h] : List Value) ++ List.replicate (3 - (lg_sl ([.ref rd_h] : List Value)).length) Slot.unset).toArray = ls at hl ⊢
  have hl : lv_has ls 3 [(0, .ref rd_h)] := hl
  refine mk_absQ (P := fun Q => W p l e _ s m _ below meth c s.heap [] 0 0 Q _) (fun Q hQ => ?_)
  refine mk_absH (P := fun H => W p l e _ s m _ below meth c H [] 0 0 Q _) (fun H hH => ?_)
  have hP : va_P D vwCl ((wo_X3 cI cZ rd_h rd_ad tp_h rd_says rd_lines rd_fault rd_faultPlace rd_length rd_place rd_kind rd_start rd_value) ++ (wo_X6 cI cZ tp_h tp_ad tp_words tp_length)) H := by rw [hH]; exact hP
  have hS : va_S A s.heap H [] := by rw [hH]; exact va_S.rf
  have b48 : ∀ (rd_fault : Int32) (rd_faultPlace : Int32) (rd_place : Int32) (rd_kind : Int32) (rd_start : Int32) (rd_value : Int32) (x1 : Int32) (x2 : Int32), wp_X3_readLine_b48 K rd_says rd_lines rd_length tp_words tp_length rd_fault rd_faultPlace rd_place rd_kind rd_start rd_value x1 x2 → ∀ (H : Heap) (locs : List Loc) (ls : Array Slot), va_P D vwCl ((wo_X3 cI cZ rd_h rd_ad tp_h rd_says rd_lines rd_fault rd_faultPlace rd_length rd_place rd_kind rd_start rd_value) ++ (wo_X6 cI cZ tp_h tp_ad tp_words tp_length)) H → va_D A ((wo_X3 cI cZ rd_h rd_ad tp_h rd_says rd_lines rd_fault rd_faultPlace rd_length rd_place rd_kind rd_start rd_value) ++ (wo_X6 cI cZ tp_h tp_ad tp_words tp_length)) → va_S A s.heap H locs → lv_has ls 3 [(0, .ref rd_h), (1, .int x1), (2, .int x2)] → W p l e (headSpec wsX3_readLine rm_X3_readLine).room s m ([.ref rd_h] : List Value).toArray below meth c H locs 0 0 Q (F0 m 48 ls []) := by
    intro rd_fault rd_faultPlace rd_place rd_kind rd_start rd_value x1 x2 h H locs ls hP hD hS hl
    refine lv_aload_n hx hb dX3_readLine_48 rfl (lv_at hl 0 rfl) ?_
    refine lv_iload_n hx hb dX3_readLine_49 rfl (lv_at hl 2 rfl) ?_
    have hP : va_P D vwCl ((fun v => v ++ ((wo_X3 cI cZ rd_h rd_ad tp_h rd_says rd_lines rd_fault rd_faultPlace rd_length rd_place rd_kind rd_start rd_value) ++ (wo_X6 cI cZ tp_h tp_ad tp_words tp_length))) ([] : va_W)) H := hP
    have hD : va_D A ((fun v => v ++ ((wo_X3 cI cZ rd_h rd_ad tp_h rd_says rd_lines rd_fault rd_faultPlace rd_length rd_place rd_kind rd_start rd_value) ++ (wo_X6 cI cZ tp_h tp_ad tp_words tp_length))) ([] : va_W)) := hD
    refine mk_ci (f := fun v => v ++ ((wo_X3 cI cZ rd_h rd_ad tp_h rd_says rd_lines rd_fault rd_faultPlace rd_length rd_place rd_kind rd_start rd_value) ++ (wo_X6 cI cZ tp_h tp_ad tp_words tp_length))) (mk_fr_hd _) (va_runS (As := [.int x2]) (rest := [.ref rd_h]) ⟨hx, hb, hml, hown, hts⟩ (c_X3_mostOf l D cI cZ E x2 _ h H.size) (va_cwS 1 hts gX3_readLine_X3_mostOf rfl rfl rfl (by decide +kernel) ⟨Nat.le_of_ble_eq_true rfl, Nat.le_of_ble_eq_true rfl⟩) (mk_preS (mk_fr_hd _) hK hN hE hS hA hP hD) rfl rfl hl.1 rfl (lv_room (Nat.le_of_ble_eq_true rfl)) dX3_readLine_50 ⟨Nat.le_of_ble_eq_true rfl, Nat.le_of_ble_eq_true rfl⟩) hP hD hS hA (fun r1 u H locs h hP hD hS => ?_)
    try dsimp only at h
    have hP : va_P D vwCl ((wo_X3 cI cZ rd_h rd_ad tp_h rd_says rd_lines rd_fault rd_faultPlace rd_length rd_place rd_kind rd_start rd_value) ++ (wo_X6 cI cZ tp_h tp_ad tp_words tp_length)) H := hP
    have hD : va_D A ((wo_X3 cI cZ rd_h rd_ad tp_h rd_says rd_lines rd_fault rd_faultPlace rd_length rd_place rd_kind rd_start rd_value) ++ (wo_X6 cI cZ tp_h tp_ad tp_words tp_length)) := hD
    have hP : va_P D vwCl ((fun v => v) ((wo_X3 cI cZ rd_h rd_ad tp_h rd_says rd_lines rd_fault rd_faultPlace rd_length rd_place rd_kind rd_start rd_value) ++ (wo_X6 cI cZ tp_h tp_ad tp_words tp_length))) H := hP
    have hD : va_D A ((fun v => v) ((wo_X3 cI cZ rd_h rd_ad tp_h rd_says rd_lines rd_fault rd_faultPlace rd_length rd_place rd_kind rd_start rd_value) ++ (wo_X6 cI cZ tp_h tp_ad tp_words tp_length))) := hD
    refine mk_ci (f := fun v => v) mk_fr_id (va_runV (As := [.int r1]) (rest := []) ⟨hx, hb, hml, hown, hts⟩ (c_X3_isNumberUpTo l D cI cZ E rd_h rd_ad tp_h tp_ad rd_says rd_lines rd_fault rd_faultPlace rd_length rd_place rd_kind rd_start rd_value tp_words tp_length r1 _ h H.size) (cwV 1 hts gX3_readLine_X3_isNumberUpTo rfl rfl rfl (by decide +kernel) ⟨Nat.le_of_ble_eq_true rfl, Nat.le_of_ble_eq_true rfl⟩) (mk_preV (ci := 3) mk_fr_id hK hN hE hS hA hP hD rfl rfl) rfl rfl hl.1 rfl (lv_room (Nat.le_of_ble_eq_true rfl)) dX3_readLine_53 ⟨Nat.le_of_ble_eq_true rfl, Nat.le_of_ble_eq_true rfl⟩) hP hD hS hA (fun r2 u H locs h hP hD hS => ?_)
    obtain ⟨y3, y4⟩ := u
    try dsimp only at h
    have hP : va_P D vwCl ((wo_X3 cI cZ rd_h rd_ad tp_h rd_says rd_lines y3 y4 rd_length rd_place rd_kind rd_start rd_value) ++ (wo_X6 cI cZ tp_h tp_ad tp_words tp_length)) H := hP
    have hD : va_D A ((wo_X3 cI cZ rd_h rd_ad tp_h rd_says rd_lines y3 y4 rd_length rd_place rd_kind rd_start rd_value) ++ (wo_X6 cI cZ tp_h tp_ad tp_words tp_length)) := hD
    refine lv_if_ne (tgt := 60) hx hb dX3_readLine_56 (by decide) (fun c_5 => ?_) (fun c_5 => ?_)
    · have h := h.1 c_5
      refine lv_aload_n hx hb dX3_readLine_60 rfl (lv_at hl 0 rfl) ?_
      refine va_get (D := D) (ci := 3) (v := .ref (rd_ad 1)) (C := RX3) (T := TX3) (N := 10) hx hb hts mi_X3_readLine_X3 hown hK hP 0 rfl rfl 1 (by decide) (hts (.fieldLink RX3 9 "HiringHall$Reader" "says" "[I") (List.mem_of_getElem? (i := 3) rfl)) (fun _ h9 => h9) rfl dX3_readLine_61 ?_
      refine lv_iload_n hx hb dX3_readLine_64 rfl (lv_at hl 2 rfl) ?_
      obtain ⟨hi_6, h⟩ := h
      refine va_iald hx hb hK hP 1 0 rfl rfl hi_6 dX3_readLine_65 ?_
      refine lv_iconst (v := (-1)) hx hb dX3_readLine_66 (by decide) ?_
      refine lv_icmp_eq (tgt := 77) hx hb dX3_readLine_67 (by decide) (fun c_7 => ?_) (fun c_7 => ?_)
      · have h := h.1 c_7
        refine lv_aload_n hx hb dX3_readLine_77 rfl (lv_at hl 0 rfl) ?_
        refine va_get (D := D) (ci := 3) (v := .ref (rd_ad 1)) (C := RX3) (T := TX3) (N := 10) hx hb hts mi_X3_readLine_X3 hown hK hP 0 rfl rfl 1 (by decide) (hts (.fieldLink RX3 9 "HiringHall$Reader" "says" "[I") (List.mem_of_getElem? (i := 3) rfl)) (fun _ h9 => h9) rfl dX3_readLine_78 ?_
        refine lv_iload_n hx hb dX3_readLine_81 rfl (lv_at hl 2 rfl) ?_
        refine lv_aload_n hx hb dX3_readLine_82 rfl (lv_at hl 0 rfl) ?_
        refine va_get (D := D) (ci := 3) (v := .int rd_value) (C := RX3) (T := TX3) (N := 10) hx hb hts mi_X3_readLine_X3 hown hK hP 0 rfl rfl 9 (by decide) (hts (.fieldLink RX3 57 "HiringHall$Reader" "value" "I") (List.mem_of_getElem? (i := 2) rfl)) (fun _ h9 => h9) rfl dX3_readLine_83 ?_
        obtain ⟨hi_8, h⟩ := h
        refine va_iast hx hb hK hP hD hS 1 0 rfl rfl hi_8 dX3_readLine_86 (fun H locs hP hD hS => ?_)
        have hP : va_P D vwCl ((wo_X3 cI cZ rd_h rd_ad tp_h (upd rd_says (x2.toNatClampNeg) rd_value) rd_lines y3 y4 rd_length rd_place rd_kind rd_start rd_value) ++ (wo_X6 cI cZ tp_h tp_ad tp_words tp_length)) H := hP
        have hD : va_D A ((wo_X3 cI cZ rd_h rd_ad tp_h (upd rd_says (x2.toNatClampNeg) rd_value) rd_lines y3 y4 rd_length rd_place rd_kind rd_start rd_value) ++ (wo_X6 cI cZ tp_h tp_ad tp_words tp_length)) := hD
        refine lv_aload_n hx hb dX3_readLine_87 rfl (lv_at hl 0 rfl) ?_
        refine lv_dup hx hb dX3_readLine_88 rfl ?_
        refine va_get (D := D) (ci := 3) (v := .int rd_lines) (C := RX3) (T := TX3) (N := 10) hx hb hts mi_X3_readLine_X3 hown hK hP 0 rfl rfl 2 (by decide) (hts (.fieldLink RX3 32 "HiringHall$Reader" "lines" "I") (List.mem_of_getElem? (i := 4) rfl)) (fun _ h9 => h9) rfl dX3_readLine_89 ?_
        refine lv_iconst (v := 1) hx hb dX3_readLine_92 (by decide) ?_
        refine lv_iadd hx hb dX3_readLine_93 ?_
        refine lv_topi (fun y9 e_y9 => ?_)
        have h := h y9 e_y9
        refine va_put (D := D) (ci := 3) (v := .int y9) (ty := .int) (C := RX3) (T := TX3) (N := 10) hx hb hts mi_X3_readLine_X3 tyX3 tyX3_ok nmX3 hown hK hP hD hS 0 rfl rfl 2 (by decide) (hts (.fieldLink RX3 32 "HiringHall$Reader" "lines" "I") (List.mem_of_getElem? (i := 4) rfl)) (fun _ h9 => h9) rfl (by decide +kernel) rfl rfl (Nat.le_of_ble_eq_true rfl) dX3_readLine_94 (fun H locs hP hD hS => ?_)
        have hP : va_P D vwCl ((wo_X3 cI cZ rd_h rd_ad tp_h (upd rd_says (x2.toNatClampNeg) rd_value) y9 y3 y4 rd_length rd_place rd_kind rd_start rd_value) ++ (wo_X6 cI cZ tp_h tp_ad tp_words tp_length)) H := hP
        have hD : va_D A ((wo_X3 cI cZ rd_h rd_ad tp_h (upd rd_says (x2.toNatClampNeg) rd_value) y9 y3 y4 rd_length rd_place rd_kind rd_start rd_value) ++ (wo_X6 cI cZ tp_h tp_ad tp_words tp_length)) := hD
        refine lv_aload_n hx hb dX3_readLine_97 rfl (lv_at hl 0 rfl) ?_
        have hP : va_P D vwCl ((fun v => v) ((wo_X3 cI cZ rd_h rd_ad tp_h (upd rd_says (x2.toNatClampNeg) rd_value) y9 y3 y4 rd_length rd_place rd_kind rd_start rd_value) ++ (wo_X6 cI cZ tp_h tp_ad tp_words tp_length))) H := hP
        have hD : va_D A ((fun v => v) ((wo_X3 cI cZ rd_h rd_ad tp_h (upd rd_says (x2.toNatClampNeg) rd_value) y9 y3 y4 rd_length rd_place rd_kind rd_start rd_value) ++ (wo_X6 cI cZ tp_h tp_ad tp_words tp_length))) := hD
        refine mk_cv (f := fun v => v) mk_fr_id (va_runV (As := []) (rest := []) ⟨hx, hb, hml, hown, hts⟩ (c_X3_nextToken l D cI cZ E rd_h rd_ad tp_h tp_ad (upd rd_says (x2.toNatClampNeg) rd_value) y9 y3 y4 rd_length rd_place rd_kind rd_start rd_value tp_words tp_length _ h H.size) (cwV 0 hts gX3_readLine_X3_nextToken rfl rfl rfl (by decide +kernel) ⟨Nat.le_of_ble_eq_true rfl, Nat.le_of_ble_eq_true rfl⟩) (mk_preV (ci := 3) mk_fr_id hK hN hE hS hA hP hD rfl rfl) rfl rfl hl.1 rfl (lv_room (Nat.le_of_ble_eq_true rfl)) dX3_readLine_98 ⟨Nat.le_of_ble_eq_true rfl, Nat.le_of_ble_eq_true rfl⟩) hP hD hS hA (fun u H locs h hP hD hS => ?_)
        obtain ⟨y10, y11, y12, y13⟩ := u
        try dsimp only at h
        have hP : va_P D vwCl ((wo_X3 cI cZ rd_h rd_ad tp_h (upd rd_says (x2.toNatClampNeg) rd_value) y9 y3 y4 rd_length y10 y11 y12 y13) ++ (wo_X6 cI cZ tp_h tp_ad tp_words tp_length)) H := hP
        have hD : va_D A ((wo_X3 cI cZ rd_h rd_ad tp_h (upd rd_says (x2.toNatClampNeg) rd_value) y9 y3 y4 rd_length y10 y11 y12 y13) ++ (wo_X6 cI cZ tp_h tp_ad tp_words tp_length)) := hD
        refine lv_aload_n hx hb dX3_readLine_101 rfl (lv_at hl 0 rfl) ?_
        refine lv_iconst (v := 3) hx hb dX3_readLine_102 (by decide) ?_
        have hP : va_P D vwCl ((fun v => v) ((wo_X3 cI cZ rd_h rd_ad tp_h (upd rd_says (x2.toNatClampNeg) rd_value) y9 y3 y4 rd_length y10 y11 y12 y13) ++ (wo_X6 cI cZ tp_h tp_ad tp_words tp_length))) H := hP
        have hD : va_D A ((fun v => v) ((wo_X3 cI cZ rd_h rd_ad tp_h (upd rd_says (x2.toNatClampNeg) rd_value) y9 y3 y4 rd_length y10 y11 y12 y13) ++ (wo_X6 cI cZ tp_h tp_ad tp_words tp_length))) := hD
        refine mk_ci (f := fun v => v) mk_fr_id (va_runV (As := [.int 3]) (rest := []) ⟨hx, hb, hml, hown, hts⟩ (c_X3_isKind l D cI cZ E rd_h rd_ad tp_h tp_ad (upd rd_says (x2.toNatClampNeg) rd_value) y9 y3 y4 rd_length y10 y11 y12 y13 tp_words tp_length 3 _ h H.size) (cwV 1 hts gX3_readLine_X3_isKind rfl rfl rfl (by decide +kernel) ⟨Nat.le_of_ble_eq_true rfl, Nat.le_of_ble_eq_true rfl⟩) (mk_preV (ci := 3) mk_fr_id hK hN hE hS hA hP hD rfl rfl) rfl rfl hl.1 rfl (lv_room (Nat.le_of_ble_eq_true rfl)) dX3_readLine_103 ⟨Nat.le_of_ble_eq_true rfl, Nat.le_of_ble_eq_true rfl⟩) hP hD hS hA (fun r14 u H locs h hP hD hS => ?_)
        obtain ⟨y15, y16⟩ := u
        try dsimp only at h
        have hP : va_P D vwCl ((wo_X3 cI cZ rd_h rd_ad tp_h (upd rd_says (x2.toNatClampNeg) rd_value) y9 y15 y16 rd_length y10 y11 y12 y13) ++ (wo_X6 cI cZ tp_h tp_ad tp_words tp_length)) H := hP
        have hD : va_D A ((wo_X3 cI cZ rd_h rd_ad tp_h (upd rd_says (x2.toNatClampNeg) rd_value) y9 y15 y16 rd_length y10 y11 y12 y13) ++ (wo_X6 cI cZ tp_h tp_ad tp_words tp_length)) := hD
        refine lv_if_eq (tgt := 113) hx hb dX3_readLine_106 (by decide) (fun c_17 => ?_) (fun c_17 => ?_)
        · have h := h.1 c_17
          rw [hQ]
          exact W.vret hx hb hr (fun t ht hW => ⟨⟨((upd rd_says (x2.toNatClampNeg) rd_value), y9, y15, y16, y10, y11, y12, y13), rfl, h, by rw [ht]; exact hP, va_K.moved hW.alike hK, hD⟩, hS.F ht⟩) hS.2.2 dX3_readLine_113
        · have h := h.2 c_17
          refine lv_aload_n hx hb dX3_readLine_109 rfl (lv_at hl 0 rfl) ?_
          have hP : va_P D vwCl ((fun v => v) ((wo_X3 cI cZ rd_h rd_ad tp_h (upd rd_says (x2.toNatClampNeg) rd_value) y9 y15 y16 rd_length y10 y11 y12 y13) ++ (wo_X6 cI cZ tp_h tp_ad tp_words tp_length))) H := hP
          have hD : va_D A ((fun v => v) ((wo_X3 cI cZ rd_h rd_ad tp_h (upd rd_says (x2.toNatClampNeg) rd_value) y9 y15 y16 rd_length y10 y11 y12 y13) ++ (wo_X6 cI cZ tp_h tp_ad tp_words tp_length))) := hD
          refine mk_cv (f := fun v => v) mk_fr_id (va_runV (As := []) (rest := []) ⟨hx, hb, hml, hown, hts⟩ (c_X3_nextToken l D cI cZ E rd_h rd_ad tp_h tp_ad (upd rd_says (x2.toNatClampNeg) rd_value) y9 y15 y16 rd_length y10 y11 y12 y13 tp_words tp_length _ h H.size) (cwV 0 hts gX3_readLine_X3_nextToken rfl rfl rfl (by decide +kernel) ⟨Nat.le_of_ble_eq_true rfl, Nat.le_of_ble_eq_true rfl⟩) (mk_preV (ci := 3) mk_fr_id hK hN hE hS hA hP hD rfl rfl) rfl rfl hl.1 rfl (lv_room (Nat.le_of_ble_eq_true rfl)) dX3_readLine_110 ⟨Nat.le_of_ble_eq_true rfl, Nat.le_of_ble_eq_true rfl⟩) hP hD hS hA (fun u H locs h hP hD hS => ?_)
          obtain ⟨y18, y19, y20, y21⟩ := u
          try dsimp only at h
          have hP : va_P D vwCl ((wo_X3 cI cZ rd_h rd_ad tp_h (upd rd_says (x2.toNatClampNeg) rd_value) y9 y15 y16 rd_length y18 y19 y20 y21) ++ (wo_X6 cI cZ tp_h tp_ad tp_words tp_length)) H := hP
          have hD : va_D A ((wo_X3 cI cZ rd_h rd_ad tp_h (upd rd_says (x2.toNatClampNeg) rd_value) y9 y15 y16 rd_length y18 y19 y20 y21) ++ (wo_X6 cI cZ tp_h tp_ad tp_words tp_length)) := hD
          rw [hQ]
          exact W.vret hx hb hr (fun t ht hW => ⟨⟨((upd rd_says (x2.toNatClampNeg) rd_value), y9, y15, y16, y18, y19, y20, y21), rfl, h, by rw [ht]; exact hP, va_K.moved hW.alike hK, hD⟩, hS.F ht⟩) hS.2.2 dX3_readLine_113
      · have h := h.2 c_7
        refine lv_aload_n hx hb dX3_readLine_70 rfl (lv_at hl 0 rfl) ?_
        refine lv_iconst (v := 3) hx hb dX3_readLine_71 (by decide) ?_
        refine lv_iload_n hx hb dX3_readLine_72 rfl (lv_at hl 1 rfl) ?_
        have hP : va_P D vwCl ((fun v => v) ((wo_X3 cI cZ rd_h rd_ad tp_h rd_says rd_lines y3 y4 rd_length rd_place rd_kind rd_start rd_value) ++ (wo_X6 cI cZ tp_h tp_ad tp_words tp_length))) H := hP
        have hD : va_D A ((fun v => v) ((wo_X3 cI cZ rd_h rd_ad tp_h rd_says rd_lines y3 y4 rd_length rd_place rd_kind rd_start rd_value) ++ (wo_X6 cI cZ tp_h tp_ad tp_words tp_length))) := hD
        refine mk_cv (f := fun v => v) mk_fr_id (va_runV (As := [.int 3, .int x1]) (rest := []) ⟨hx, hb, hml, hown, hts⟩ (c_X3_setFault l D cI cZ E rd_h rd_ad tp_h tp_ad rd_says rd_lines y3 y4 rd_length rd_place rd_kind rd_start rd_value tp_words tp_length 3 x1 _ h H.size) (cwV 2 hts gX3_readLine_X3_setFault rfl rfl rfl (by decide +kernel) ⟨Nat.le_of_ble_eq_true rfl, Nat.le_of_ble_eq_true rfl⟩) (mk_preV (ci := 3) mk_fr_id hK hN hE hS hA hP hD rfl rfl) rfl rfl hl.1 rfl (lv_room (Nat.le_of_ble_eq_true rfl)) dX3_readLine_73 ⟨Nat.le_of_ble_eq_true rfl, Nat.le_of_ble_eq_true rfl⟩) hP hD hS hA (fun u H locs h hP hD hS => ?_)
        obtain ⟨y22, y23⟩ := u
        try dsimp only at h
        have hP : va_P D vwCl ((wo_X3 cI cZ rd_h rd_ad tp_h rd_says rd_lines y22 y23 rd_length rd_place rd_kind rd_start rd_value) ++ (wo_X6 cI cZ tp_h tp_ad tp_words tp_length)) H := hP
        have hD : va_D A ((wo_X3 cI cZ rd_h rd_ad tp_h rd_says rd_lines y22 y23 rd_length rd_place rd_kind rd_start rd_value) ++ (wo_X6 cI cZ tp_h tp_ad tp_words tp_length)) := hD
        rw [hQ]
        exact W.vret hx hb hr (fun t ht hW => ⟨⟨(rd_says, rd_lines, y22, y23, rd_place, rd_kind, rd_start, rd_value), rfl, h, by rw [ht]; exact hP, va_K.moved hW.alike hK, hD⟩, hS.F ht⟩) hS.2.2 dX3_readLine_76
    · have h := h.2 c_5
      rw [hQ]
      exact W.vret hx hb hr (fun t ht hW => ⟨⟨(rd_says, rd_lines, y3, y4, rd_place, rd_kind, rd_start, rd_value), rfl, h, by rw [ht]; exact hP, va_K.moved hW.alike hK, hD⟩, hS.F ht⟩) hS.2.2 dX3_readLine_59
  refine lv_aload_n hx hb dX3_readLine_0 rfl (lv_at hl 0 rfl) ?_
  refine va_get (D := D) (ci := 3) (v := .int rd_start) (C := RX3) (T := TX3) (N := 10) hx hb hts mi_X3_readLine_X3 hown hK hP 0 rfl rfl 8 (by decide) (hts (.fieldLink RX3 50 "HiringHall$Reader" "start" "I") (List.mem_of_getElem? (i := 1) rfl)) (fun _ h9 => h9) rfl dX3_readLine_1 ?_
  refine lv_istore_n (lv' := [(1, .int rd_start), (0, .ref rd_h)]) hx hb dX3_readLine_4 rfl hl (by decide) rfl (fun ls hl => ?_)
  refine lv_aload_n hx hb dX3_readLine_5 rfl (lv_at hl 1 rfl) ?_
  refine lv_iconst (v := 1) hx hb dX3_readLine_6 (by decide) ?_
  have hP : va_P D vwCl ((fun v => v) ((wo_X3 cI cZ rd_h rd_ad tp_h rd_says rd_lines rd_fault rd_faultPlace rd_length rd_place rd_kind rd_start rd_value) ++ (wo_X6 cI cZ tp_h tp_ad tp_words tp_length))) H := hP
  have hD : va_D A ((fun v => v) ((wo_X3 cI cZ rd_h rd_ad tp_h rd_says rd_lines rd_fault rd_faultPlace rd_length rd_place rd_kind rd_start rd_value) ++ (wo_X6 cI cZ tp_h tp_ad tp_words tp_length))) := hD
  refine mk_ci (f := fun v => v) mk_fr_id (va_runV (As := [.int 1]) (rest := []) ⟨hx, hb, hml, hown, hts⟩ (c_X3_isKind l D cI cZ E rd_h rd_ad tp_h tp_ad rd_says rd_lines rd_fault rd_faultPlace rd_length rd_place rd_kind rd_start rd_value tp_words tp_length 1 _ h H.size) (cwV 1 hts gX3_readLine_X3_isKind rfl rfl rfl (by decide +kernel) ⟨Nat.le_of_ble_eq_true rfl, Nat.le_of_ble_eq_true rfl⟩) (mk_preV (ci := 3) mk_fr_id hK hN hE hS hA hP hD rfl rfl) rfl rfl hl.1 rfl (lv_room (Nat.le_of_ble_eq_true rfl)) dX3_readLine_7 ⟨Nat.le_of_ble_eq_true rfl, Nat.le_of_ble_eq_true rfl⟩) hP hD hS hA (fun r24 u H locs h hP hD hS => ?_)
  obtain ⟨y25, y26⟩ := u
  try dsimp only at h
  have hP : va_P D vwCl ((wo_X3 cI cZ rd_h rd_ad tp_h rd_says rd_lines y25 y26 rd_length rd_place rd_kind rd_start rd_value) ++ (wo_X6 cI cZ tp_h tp_ad tp_words tp_length)) H := hP
  have hD : va_D A ((wo_X3 cI cZ rd_h rd_ad tp_h rd_says rd_lines y25 y26 rd_length rd_place rd_kind rd_start rd_value) ++ (wo_X6 cI cZ tp_h tp_ad tp_words tp_length)) := hD
  refine lv_if_ne (tgt := 14) hx hb dX3_readLine_10 (by decide) (fun c_27 => ?_) (fun c_27 => ?_)
  · have h := h.1 c_27
    refine lv_aload_n hx hb dX3_readLine_14 rfl (lv_at hl 1 rfl) ?_
    refine va_get (D := D) (ci := 3) (v := .int rd_value) (C := RX3) (T := TX3) (N := 10) hx hb hts mi_X3_readLine_X3 hown hK hP 0 rfl rfl 9 (by decide) (hts (.fieldLink RX3 57 "HiringHall$Reader" "value" "I") (List.mem_of_getElem? (i := 2) rfl)) (fun _ h9 => h9) rfl dX3_readLine_15 ?_
    refine lv_istore_n (lv' := [(2, .int rd_value), (1, .int rd_start), (0, .ref rd_h)]) hx hb dX3_readLine_18 rfl hl (by decide) rfl (fun ls hl => ?_)
    refine lv_aload_n hx hb dX3_readLine_19 rfl (lv_at hl 2 rfl) ?_
    have hP : va_P D vwCl ((fun v => v) ((wo_X3 cI cZ rd_h rd_ad tp_h rd_says rd_lines y25 y26 rd_length rd_place rd_kind rd_start rd_value) ++ (wo_X6 cI cZ tp_h tp_ad tp_words tp_length))) H := hP
    have hD : va_D A ((fun v => v) ((wo_X3 cI cZ rd_h rd_ad tp_h rd_says rd_lines y25 y26 rd_length rd_place rd_kind rd_start rd_value) ++ (wo_X6 cI cZ tp_h tp_ad tp_words tp_length))) := hD
    refine mk_cv (f := fun v => v) mk_fr_id (va_runV (As := []) (rest := []) ⟨hx, hb, hml, hown, hts⟩ (c_X3_nextToken l D cI cZ E rd_h rd_ad tp_h tp_ad rd_says rd_lines y25 y26 rd_length rd_place rd_kind rd_start rd_value tp_words tp_length _ h H.size) (cwV 0 hts gX3_readLine_X3_nextToken rfl rfl rfl (by decide +kernel) ⟨Nat.le_of_ble_eq_true rfl, Nat.le_of_ble_eq_true rfl⟩) (mk_preV (ci := 3) mk_fr_id hK hN hE hS hA hP hD rfl rfl) rfl rfl hl.1 rfl (lv_room (Nat.le_of_ble_eq_true rfl)) dX3_readLine_20 ⟨Nat.le_of_ble_eq_true rfl, Nat.le_of_ble_eq_true rfl⟩) hP hD hS hA (fun u H locs h hP hD hS => ?_)
    obtain ⟨y28, y29, y30, y31⟩ := u
    try dsimp only at h
    have hP : va_P D vwCl ((wo_X3 cI cZ rd_h rd_ad tp_h rd_says rd_lines y25 y26 rd_length y28 y29 y30 y31) ++ (wo_X6 cI cZ tp_h tp_ad tp_words tp_length)) H := hP
    have hD : va_D A ((wo_X3 cI cZ rd_h rd_ad tp_h rd_says rd_lines y25 y26 rd_length y28 y29 y30 y31) ++ (wo_X6 cI cZ tp_h tp_ad tp_words tp_length)) := hD
    refine lv_iload_n hx hb dX3_readLine_23 rfl (lv_at hl 0 rfl) ?_
    refine lv_iconst (v := 5) hx hb dX3_readLine_24 (by decide) ?_
    refine lv_icmp_ne (tgt := 48) hx hb dX3_readLine_25 (by decide) (fun c_32 => ?_) (fun c_32 => ?_)
    · have h := h.1 c_32
      exact b48  y25 y26 y28 y29 y30 y31 rd_start rd_value h _ _ _ hP hD hS (lv_sub hl [2, 1, 0] rfl)
    · have h := h.2 c_32
      refine lv_aload_n hx hb dX3_readLine_28 rfl (lv_at hl 2 rfl) ?_
      refine lv_iconst (v := 2) hx hb dX3_readLine_29 (by decide) ?_
      have hP : va_P D vwCl ((fun v => v) ((wo_X3 cI cZ rd_h rd_ad tp_h rd_says rd_lines y25 y26 rd_length y28 y29 y30 y31) ++ (wo_X6 cI cZ tp_h tp_ad tp_words tp_length))) H := hP
      have hD : va_D A ((fun v => v) ((wo_X3 cI cZ rd_h rd_ad tp_h rd_says rd_lines y25 y26 rd_length y28 y29 y30 y31) ++ (wo_X6 cI cZ tp_h tp_ad tp_words tp_length))) := hD
      refine mk_ci (f := fun v => v) mk_fr_id (va_runV (As := [.int 2]) (rest := []) ⟨hx, hb, hml, hown, hts⟩ (c_X3_isNumberUpTo l D cI cZ E rd_h rd_ad tp_h tp_ad rd_says rd_lines y25 y26 rd_length y28 y29 y30 y31 tp_words tp_length 2 _ h H.size) (cwV 1 hts gX3_readLine_X3_isNumberUpTo rfl rfl rfl (by decide +kernel) ⟨Nat.le_of_ble_eq_true rfl, Nat.le_of_ble_eq_true rfl⟩) (mk_preV (ci := 3) mk_fr_id hK hN hE hS hA hP hD rfl rfl) rfl rfl hl.1 rfl (lv_room (Nat.le_of_ble_eq_true rfl)) dX3_readLine_30 ⟨Nat.le_of_ble_eq_true rfl, Nat.le_of_ble_eq_true rfl⟩) hP hD hS hA (fun r33 u H locs h hP hD hS => ?_)
      obtain ⟨y34, y35⟩ := u
      try dsimp only at h
      have hP : va_P D vwCl ((wo_X3 cI cZ rd_h rd_ad tp_h rd_says rd_lines y34 y35 rd_length y28 y29 y30 y31) ++ (wo_X6 cI cZ tp_h tp_ad tp_words tp_length)) H := hP
      have hD : va_D A ((wo_X3 cI cZ rd_h rd_ad tp_h rd_says rd_lines y34 y35 rd_length y28 y29 y30 y31) ++ (wo_X6 cI cZ tp_h tp_ad tp_words tp_length)) := hD
      refine lv_if_ne (tgt := 37) hx hb dX3_readLine_33 (by decide) (fun c_36 => ?_) (fun c_36 => ?_)
      · have h := h.1 c_36
        refine lv_iconst (v := 5) hx hb dX3_readLine_37 (by decide) ?_
        refine lv_aload_n hx hb dX3_readLine_38 rfl (lv_at hl 2 rfl) ?_
        refine va_get (D := D) (ci := 3) (v := .int y31) (C := RX3) (T := TX3) (N := 10) hx hb hts mi_X3_readLine_X3 hown hK hP 0 rfl rfl 9 (by decide) (hts (.fieldLink RX3 57 "HiringHall$Reader" "value" "I") (List.mem_of_getElem? (i := 2) rfl)) (fun _ h9 => h9) rfl dX3_readLine_39 ?_
        refine lv_iadd hx hb dX3_readLine_42 ?_
        refine lv_topi (fun y37 e_y37 => ?_)
        have h := h y37 e_y37
        refine lv_istore_n (lv' := [(2, .int y37), (1, .int rd_start), (0, .ref rd_h)]) hx hb dX3_readLine_43 rfl hl (by decide) rfl (fun ls hl => ?_)
        refine lv_aload_n hx hb dX3_readLine_44 rfl (lv_at hl 2 rfl) ?_
        have hP : va_P D vwCl ((fun v => v) ((wo_X3 cI cZ rd_h rd_ad tp_h rd_says rd_lines y34 y35 rd_length y28 y29 y30 y31) ++ (wo_X6 cI cZ tp_h tp_ad tp_words tp_length))) H := hP
        have hD : va_D A ((fun v => v) ((wo_X3 cI cZ rd_h rd_ad tp_h rd_says rd_lines y34 y35 rd_length y28 y29 y30 y31) ++ (wo_X6 cI cZ tp_h tp_ad tp_words tp_length))) := hD
        refine mk_cv (f := fun v => v) mk_fr_id (va_runV (As := []) (rest := []) ⟨hx, hb, hml, hown, hts⟩ (c_X3_nextToken l D cI cZ E rd_h rd_ad tp_h tp_ad rd_says rd_lines y34 y35 rd_length y28 y29 y30 y31 tp_words tp_length _ h H.size) (cwV 0 hts gX3_readLine_X3_nextToken rfl rfl rfl (by decide +kernel) ⟨Nat.le_of_ble_eq_true rfl, Nat.le_of_ble_eq_true rfl⟩) (mk_preV (ci := 3) mk_fr_id hK hN hE hS hA hP hD rfl rfl) rfl rfl hl.1 rfl (lv_room (Nat.le_of_ble_eq_true rfl)) dX3_readLine_45 ⟨Nat.le_of_ble_eq_true rfl, Nat.le_of_ble_eq_true rfl⟩) hP hD hS hA (fun u H locs h hP hD hS => ?_)
        obtain ⟨y38, y39, y40, y41⟩ := u
        try dsimp only at h
        have hP : va_P D vwCl ((wo_X3 cI cZ rd_h rd_ad tp_h rd_says rd_lines y34 y35 rd_length y38 y39 y40 y41) ++ (wo_X6 cI cZ tp_h tp_ad tp_words tp_length)) H := hP
        have hD : va_D A ((wo_X3 cI cZ rd_h rd_ad tp_h rd_says rd_lines y34 y35 rd_length y38 y39 y40 y41) ++ (wo_X6 cI cZ tp_h tp_ad tp_words tp_length)) := hD
        exact b48  y34 y35 y38 y39 y40 y41 rd_start y37 h _ _ _ hP hD hS (lv_sub hl [2, 1, 0] rfl)
      · have h := h.2 c_36
        rw [hQ]
        exact W.vret hx hb hr (fun t ht hW => ⟨⟨(rd_says, rd_lines, y34, y35, y28, y29, y30, y31), rfl, h, by rw [ht]; exact hP, va_K.moved hW.alike hK, hD⟩, hS.F ht⟩) hS.2.2 dX3_readLine_36
  · have h := h.2 c_27
    rw [hQ]
    exact W.vret hx hb hr (fun t ht hW => ⟨⟨(rd_says, rd_lines, y25, y26, rd_place, rd_kind, rd_start, rd_value), rfl, h, by rw [ht]; exact hP, va_K.moved hW.alike hK, hD⟩, hS.F ht⟩) hS.2.2 dX3_readLine_13
def rm_X3_read : Room := { frames := 8, cells := 0, slots := 0, locals := 171 }
theorem mi_X3_read_X3 : ∀ w ∈ wsX30, w ∈ wsX3_read := fun _ h => List.mem_cons_of_mem _ (List.mem_append_left _ (List.mem_append_right _ h))
set_option maxHeartbeats 4000000 in
set_option maxRecDepth 100000 in
theorem c_X3_read (l : Launch) (D : va_G) (cI cZ : ClassId) (E : (Nat → Nat) × (Nat → Nat)) (rd_h : Nat) (rd_ad : Nat → Nat) (tp_h : Nat) (tp_ad : Nat → Nat) (rd_says : (Nat → Int32)) (rd_lines : Int32) (rd_fault : Int32) (rd_faultPlace : Int32) (rd_length : Int32) (rd_place : Int32) (rd_kind : Int32) (rd_start : Int32) (rd_value : Int32) (tp_words : (Nat → Int32)) (tp_length : Int32) (x1 : Int32) (K : ((Nat → Int32) → Int32 → Int32 → Int32 → Int32 → Int32 → Int32 → Int32 → Int32 → Prop)) (h : wp_X3_read rd_says rd_lines rd_fault rd_faultPlace rd_length rd_place rd_kind rd_start rd_value tp_words tp_length x1 K) : mk_Cv l D cI cZ E yX3_read wsX3_read rm_X3_read ([.ref rd_h, .int x1] : List Value) ((wo_X3 cI cZ rd_h rd_ad tp_h rd_says rd_lines rd_fault rd_faultPlace rd_length rd_place rd_kind rd_start rd_value) ++ (wo_X6 cI cZ tp_h tp_ad tp_words tp_length)) (fun (u : (Nat → Int32) × Int32 × Int32 × Int32 × Int32 × Int32 × Int32 × Int32 × Int32) => ((wo_X3 cI cZ rd_h rd_ad tp_h u.1 u.2.1 u.2.2.1 u.2.2.2.1 u.2.2.2.2.1 u.2.2.2.2.2.1 u.2.2.2.2.2.2.1 u.2.2.2.2.2.2.2.1 u.2.2.2.2.2.2.2.2) ++ (wo_X6 cI cZ tp_h tp_ad tp_words tp_length))) (fun (u : (Nat → Int32) × Int32 × Int32 × Int32 × Int32 × Int32 × Int32 × Int32 × Int32) => K u.1 u.2.1 u.2.2.1 u.2.2.2.1 u.2.2.2.2.1 u.2.2.2.2.2.1 u.2.2.2.2.2.2.1 u.2.2.2.2.2.2.2.1 u.2.2.2.2.2.2.2.2) := by
  intro sz
  refine Met.ofW (cc := cX3_read) (maxL := 3) (ret := none) (by decide) rfl ?_
  intro p e s m args below meth c s₁ B hml hv
  obtain ⟨rfl, hsz, hP, hK, hD0, hN, hE⟩ := hv
  have hx := B.exec
  have hb := B.bytes
  have hr := B.returns
  have hts := atoms_spec (ws := wsX3_read) B.pre
  have hown : s.vm.findClass RX3 = some m.cls := findClass_of_methodNamed B.named
  have hlocks := B.notSynchronized
  subst hsz
  have hD := hD0.self (sz := s.heap.size)
  generalize hAe : va_A ((wo_X3 cI cZ rd_h rd_ad tp_h rd_says rd_lines rd_fault rd_faultPlace rd_length rd_place rd_kind rd_start rd_value) ++ (wo_X6 cI cZ tp_h tp_ad tp_words tp_length)) s.heap.size = A at hD hE ⊢
  have hA : ∀ q : Nat, s.heap.size ≤ q → A q := fun q h => by rw [← hAe]; exact Or.inr h
  have hl := lv_entry ([.ref rd_h, .int x1] : List Value) (n := 3) (Nat.le_of_ble_eq_true rfl)
  rw [lg_entry_eq]
  generalize (lg_sl ([.ref rd_h, .int x1] : List Value) ++ List.replicate (3 - (lg_sl ([.ref rd_h, .int x1] : List Value)).length) Slot.unset).toArray = ls at hl ⊢
  have hl : lv_has ls 3 [(0, .ref rd_h), (1, .int x1)] := hl
  refine mk_absQ (P := fun Q => W p l e _ s m _ below meth c s.heap [] 0 0 Q _) (fun Q hQ => ?_)
  refine mk_absH (P := fun H => W p l e _ s m _ below meth c H [] 0 0 Q _) (fun H hH => ?_)
  have hP : va_P D vwCl ((wo_X3 cI cZ rd_h rd_ad tp_h rd_says rd_lines rd_fault rd_faultPlace rd_length rd_place rd_kind rd_start rd_value) ++ (wo_X6 cI cZ tp_h tp_ad tp_words tp_length)) H := by rw [hH]; exact hP
  have hS : va_S A s.heap H [] := by rw [hH]; exact va_S.rf
  have b39 : ∀ (n : Nat), ∀ (rd_says : (Nat → Int32)) (rd_lines : Int32) (rd_fault : Int32) (rd_faultPlace : Int32) (rd_length : Int32) (rd_place : Int32) (rd_kind : Int32) (rd_start : Int32) (rd_value : Int32) (x2 : Int32), wp_X3_read_b39 K tp_words tp_length n rd_says rd_lines rd_fault rd_faultPlace rd_length rd_place rd_kind rd_start rd_value x2 → ∀ (H : Heap) (locs : List Loc) (ls : Array Slot), va_P D vwCl ((wo_X3 cI cZ rd_h rd_ad tp_h rd_says rd_lines rd_fault rd_faultPlace rd_length rd_place rd_kind rd_start rd_value) ++ (wo_X6 cI cZ tp_h tp_ad tp_words tp_length)) H → va_D A ((wo_X3 cI cZ rd_h rd_ad tp_h rd_says rd_lines rd_fault rd_faultPlace rd_length rd_place rd_kind rd_start rd_value) ++ (wo_X6 cI cZ tp_h tp_ad tp_words tp_length)) → va_S A s.heap H locs → lv_has ls 3 [(0, .ref rd_h), (2, .int x2)] → W p l e (headSpec wsX3_read rm_X3_read).room s m ([.ref rd_h, .int x1] : List Value).toArray below meth c H locs 0 0 Q (F0 m 39 ls []) := by
    intro n
    induction n with
    | zero => intro rd_says rd_lines rd_fault rd_faultPlace rd_length rd_place rd_kind rd_start rd_value x2 h; exact False.elim h
    | succ n ih =>
      intro rd_says rd_lines rd_fault rd_faultPlace rd_length rd_place rd_kind rd_start rd_value x2 h H locs ls hP hD hS hl
      refine lv_iload_n hx hb dX3_read_39 rfl (lv_at hl 1 rfl) ?_
      refine lv_aload_n hx hb dX3_read_40 rfl (lv_at hl 0 rfl) ?_
      refine va_get (D := D) (ci := 3) (v := .int rd_length) (C := RX3) (T := TX3) (N := 10) hx hb hts mi_X3_read_X3 hown hK hP 0 rfl rfl 5 (by decide) (hts (.fieldLink RX3 35 "HiringHall$Reader" "length" "I") (List.mem_of_getElem? (i := 5) rfl)) (fun _ h9 => h9) rfl dX3_read_41 ?_
      refine lv_icmp_ge (tgt := 71) hx hb dX3_read_44 (by decide) (fun c_1 => ?_) (fun c_1 => ?_)
      · have h := h.1 c_1
        rw [hQ]
        exact W.vret hx hb hr (fun t ht hW => ⟨⟨(rd_says, rd_lines, rd_fault, rd_faultPlace, rd_length, rd_place, rd_kind, rd_start, rd_value), rfl, h, by rw [ht]; exact hP, va_K.moved hW.alike hK, hD⟩, hS.F ht⟩) hS.2.2 dX3_read_71
      · have h := h.2 c_1
        refine lv_aload_n hx hb dX3_read_47 rfl (lv_at hl 0 rfl) ?_
        refine va_get (D := D) (ci := 3) (v := .int rd_kind) (C := RX3) (T := TX3) (N := 10) hx hb hts mi_X3_read_X3 hown hK hP 0 rfl rfl 7 (by decide) (hts (.fieldLink RX3 44 "HiringHall$Reader" "kind" "I") (List.mem_of_getElem? (i := 7) rfl)) (fun _ h9 => h9) rfl dX3_read_48 ?_
        refine lv_if_eq (tgt := 71) hx hb dX3_read_51 (by decide) (fun c_2 => ?_) (fun c_2 => ?_)
        · have h := h.1 c_2
          rw [hQ]
          exact W.vret hx hb hr (fun t ht hW => ⟨⟨(rd_says, rd_lines, rd_fault, rd_faultPlace, rd_length, rd_place, rd_kind, rd_start, rd_value), rfl, h, by rw [ht]; exact hP, va_K.moved hW.alike hK, hD⟩, hS.F ht⟩) hS.2.2 dX3_read_71
        · have h := h.2 c_2
          refine lv_aload_n hx hb dX3_read_54 rfl (lv_at hl 0 rfl) ?_
          refine va_get (D := D) (ci := 3) (v := .int rd_fault) (C := RX3) (T := TX3) (N := 10) hx hb hts mi_X3_read_X3 hown hK hP 0 rfl rfl 3 (by decide) (hts (.fieldLink RX3 15 "HiringHall$Reader" "fault" "I") (List.mem_of_getElem? (i := 3) rfl)) (fun _ h9 => h9) rfl dX3_read_55 ?_
          refine lv_if_ne (tgt := 71) hx hb dX3_read_58 (by decide) (fun c_3 => ?_) (fun c_3 => ?_)
          · have h := h.1 c_3
            rw [hQ]
            exact W.vret hx hb hr (fun t ht hW => ⟨⟨(rd_says, rd_lines, rd_fault, rd_faultPlace, rd_length, rd_place, rd_kind, rd_start, rd_value), rfl, h, by rw [ht]; exact hP, va_K.moved hW.alike hK, hD⟩, hS.F ht⟩) hS.2.2 dX3_read_71
          · have h := h.2 c_3
            refine lv_aload_n hx hb dX3_read_61 rfl (lv_at hl 0 rfl) ?_
            have hP : va_P D vwCl ((fun v => v) ((wo_X3 cI cZ rd_h rd_ad tp_h rd_says rd_lines rd_fault rd_faultPlace rd_length rd_place rd_kind rd_start rd_value) ++ (wo_X6 cI cZ tp_h tp_ad tp_words tp_length))) H := hP
            have hD : va_D A ((fun v => v) ((wo_X3 cI cZ rd_h rd_ad tp_h rd_says rd_lines rd_fault rd_faultPlace rd_length rd_place rd_kind rd_start rd_value) ++ (wo_X6 cI cZ tp_h tp_ad tp_words tp_length))) := hD
            refine mk_cv (f := fun v => v) mk_fr_id (va_runV (As := []) (rest := []) ⟨hx, hb, hml, hown, hts⟩ (c_X3_readLine l D cI cZ E rd_h rd_ad tp_h tp_ad rd_says rd_lines rd_fault rd_faultPlace rd_length rd_place rd_kind rd_start rd_value tp_words tp_length _ h H.size) (cwV 0 hts gX3_read_X3_readLine rfl rfl rfl (by decide +kernel) ⟨Nat.le_of_ble_eq_true rfl, Nat.le_of_ble_eq_true rfl⟩) (mk_preV (ci := 3) mk_fr_id hK hN hE hS hA hP hD rfl rfl) rfl rfl hl.1 rfl (lv_room (Nat.le_of_ble_eq_true rfl)) dX3_read_62 ⟨Nat.le_of_ble_eq_true rfl, Nat.le_of_ble_eq_true rfl⟩) hP hD hS hA (fun u H locs h hP hD hS => ?_)
            obtain ⟨a4, y5, y6, y7, y8, y9, y10, y11⟩ := u
            try dsimp only at h
            have hP : va_P D vwCl ((wo_X3 cI cZ rd_h rd_ad tp_h a4 y5 y6 y7 rd_length y8 y9 y10 y11) ++ (wo_X6 cI cZ tp_h tp_ad tp_words tp_length)) H := hP
            have hD : va_D A ((wo_X3 cI cZ rd_h rd_ad tp_h a4 y5 y6 y7 rd_length y8 y9 y10 y11) ++ (wo_X6 cI cZ tp_h tp_ad tp_words tp_length)) := hD
            obtain ⟨y12, e_y12⟩ : ∃ y : Int32, y = x2 + 1 := ⟨_, rfl⟩
            have h := h y12 e_y12
            refine lv_iinc (v := y12) (lv' := [(2, .int y12), (0, .ref rd_h)]) hx hb dX3_read_65 hl (k := 1) rfl (by rw [e_y12]; rfl) (by decide) rfl (fun ls hl => ?_)
            refine lv_goto (tgt := 39) hx hb dX3_read_68 (by decide) ?_
            exact ih a4 y5 y6 y7 rd_length y8 y9 y10 y11 y12 h _ _ _ hP hD hS (lv_sub hl [1, 0] rfl)
  refine lv_aload_n hx hb dX3_read_0 rfl (lv_at hl 0 rfl) ?_
  refine va_get (D := D) (ci := 3) (v := .ref (rd_ad 1)) (C := RX3) (T := TX3) (N := 10) hx hb hts mi_X3_read_X3 hown hK hP 0 rfl rfl 1 (by decide) (hts (.fieldLink RX3 9 "HiringHall$Reader" "says" "[I") (List.mem_of_getElem? (i := 1) rfl)) (fun _ h9 => h9) rfl dX3_read_1 ?_
  refine lv_iconst (v := (-1)) hx hb dX3_read_4 (by decide) ?_
  have hP : va_P D vwCl ((((wo_X3 cI cZ rd_h rd_ad tp_h rd_says rd_lines rd_fault rd_faultPlace rd_length rd_place rd_kind rd_start rd_value) ++ (wo_X6 cI cZ tp_h tp_ad tp_words tp_length)).take 1) ++ (([((rd_ad 1), .inl (cI, 8, .inl rd_says))] : va_W) ++ (((wo_X3 cI cZ rd_h rd_ad tp_h rd_says rd_lines rd_fault rd_faultPlace rd_length rd_place rd_kind rd_start rd_value) ++ (wo_X6 cI cZ tp_h tp_ad tp_words tp_length)).drop 2))) H := hP
  have hD : va_D A ((((wo_X3 cI cZ rd_h rd_ad tp_h rd_says rd_lines rd_fault rd_faultPlace rd_length rd_place rd_kind rd_start rd_value) ++ (wo_X6 cI cZ tp_h tp_ad tp_words tp_length)).take 1) ++ (([((rd_ad 1), .inl (cI, 8, .inl rd_says))] : va_W) ++ (((wo_X3 cI cZ rd_h rd_ad tp_h rd_says rd_lines rd_fault rd_faultPlace rd_length rd_place rd_kind rd_start rd_value) ++ (wo_X6 cI cZ tp_h tp_ad tp_words tp_length)).drop 2))) := hD
  refine mk_cv (f := fun v => (((wo_X3 cI cZ rd_h rd_ad tp_h rd_says rd_lines rd_fault rd_faultPlace rd_length rd_place rd_kind rd_start rd_value) ++ (wo_X6 cI cZ tp_h tp_ad tp_words tp_length)).take 1) ++ (v ++ (((wo_X3 cI cZ rd_h rd_ad tp_h rd_says rd_lines rd_fault rd_faultPlace rd_length rd_place rd_kind rd_start rd_value) ++ (wo_X6 cI cZ tp_h tp_ad tp_words tp_length)).drop 2))) (mk_fr_mid _ _) (va_runS (As := [.ref (rd_ad 1), .int (-1)]) (rest := []) ⟨hx, hb, hml, hown, hts⟩ (c_fill l D cI cZ E (rd_ad 1) 8 rd_says (-1) (by decide) H.size) (va_cwS 2 hts gX3_read_J7_fill_53178 rfl rfl rfl (by decide +kernel) ⟨Nat.le_of_ble_eq_true rfl, Nat.le_of_ble_eq_true rfl⟩) (mk_preS (mk_fr_mid _ _) hK hN hE hS hA hP hD) rfl rfl hl.1 rfl (lv_room (Nat.le_of_ble_eq_true rfl)) dX3_read_5 ⟨Nat.le_of_ble_eq_true rfl, Nat.le_of_ble_eq_true rfl⟩) hP hD hS hA (fun u H locs hu hP hD hS => ?_)
  subst hu
  have hP : va_P D vwCl ((wo_X3 cI cZ rd_h rd_ad tp_h (mk_fill 8 (-1) rd_says) rd_lines rd_fault rd_faultPlace rd_length rd_place rd_kind rd_start rd_value) ++ (wo_X6 cI cZ tp_h tp_ad tp_words tp_length)) H := hP
  have hD : va_D A ((wo_X3 cI cZ rd_h rd_ad tp_h (mk_fill 8 (-1) rd_says) rd_lines rd_fault rd_faultPlace rd_length rd_place rd_kind rd_start rd_value) ++ (wo_X6 cI cZ tp_h tp_ad tp_words tp_length)) := hD
  refine lv_aload_n hx hb dX3_read_8 rfl (lv_at hl 0 rfl) ?_
  refine lv_iconst (v := 0) hx hb dX3_read_9 (by decide) ?_
  refine va_put (D := D) (ci := 3) (v := .int 0) (ty := .int) (C := RX3) (T := TX3) (N := 10) hx hb hts mi_X3_read_X3 tyX3 tyX3_ok nmX3 hown hK hP hD hS 0 rfl rfl 2 (by decide) (hts (.fieldLink RX3 32 "HiringHall$Reader" "lines" "I") (List.mem_of_getElem? (i := 2) rfl)) (fun _ h9 => h9) rfl (by decide +kernel) rfl rfl (Nat.le_of_ble_eq_true rfl) dX3_read_10 (fun H locs hP hD hS => ?_)
  have hP : va_P D vwCl ((wo_X3 cI cZ rd_h rd_ad tp_h (mk_fill 8 (-1) rd_says) 0 rd_fault rd_faultPlace rd_length rd_place rd_kind rd_start rd_value) ++ (wo_X6 cI cZ tp_h tp_ad tp_words tp_length)) H := hP
  have hD : va_D A ((wo_X3 cI cZ rd_h rd_ad tp_h (mk_fill 8 (-1) rd_says) 0 rd_fault rd_faultPlace rd_length rd_place rd_kind rd_start rd_value) ++ (wo_X6 cI cZ tp_h tp_ad tp_words tp_length)) := hD
  refine lv_aload_n hx hb dX3_read_13 rfl (lv_at hl 0 rfl) ?_
  refine lv_iconst (v := 0) hx hb dX3_read_14 (by decide) ?_
  refine va_put (D := D) (ci := 3) (v := .int 0) (ty := .int) (C := RX3) (T := TX3) (N := 10) hx hb hts mi_X3_read_X3 tyX3 tyX3_ok nmX3 hown hK hP hD hS 0 rfl rfl 3 (by decide) (hts (.fieldLink RX3 15 "HiringHall$Reader" "fault" "I") (List.mem_of_getElem? (i := 3) rfl)) (fun _ h9 => h9) rfl (by decide +kernel) rfl rfl (Nat.le_of_ble_eq_true rfl) dX3_read_15 (fun H locs hP hD hS => ?_)
  have hP : va_P D vwCl ((wo_X3 cI cZ rd_h rd_ad tp_h (mk_fill 8 (-1) rd_says) 0 0 rd_faultPlace rd_length rd_place rd_kind rd_start rd_value) ++ (wo_X6 cI cZ tp_h tp_ad tp_words tp_length)) H := hP
  have hD : va_D A ((wo_X3 cI cZ rd_h rd_ad tp_h (mk_fill 8 (-1) rd_says) 0 0 rd_faultPlace rd_length rd_place rd_kind rd_start rd_value) ++ (wo_X6 cI cZ tp_h tp_ad tp_words tp_length)) := hD
  refine lv_aload_n hx hb dX3_read_18 rfl (lv_at hl 0 rfl) ?_
  refine lv_iconst (v := (-1)) hx hb dX3_read_19 (by decide) ?_
  refine va_put (D := D) (ci := 3) (v := .int (-1)) (ty := .int) (C := RX3) (T := TX3) (N := 10) hx hb hts mi_X3_read_X3 tyX3 tyX3_ok nmX3 hown hK hP hD hS 0 rfl rfl 4 (by decide) (hts (.fieldLink RX3 19 "HiringHall$Reader" "faultPlace" "I") (List.mem_of_getElem? (i := 4) rfl)) (fun _ h9 => h9) rfl (by decide +kernel) rfl rfl (Nat.le_of_ble_eq_true rfl) dX3_read_20 (fun H locs hP hD hS => ?_)
  have hP : va_P D vwCl ((wo_X3 cI cZ rd_h rd_ad tp_h (mk_fill 8 (-1) rd_says) 0 0 (-1) rd_length rd_place rd_kind rd_start rd_value) ++ (wo_X6 cI cZ tp_h tp_ad tp_words tp_length)) H := hP
  have hD : va_D A ((wo_X3 cI cZ rd_h rd_ad tp_h (mk_fill 8 (-1) rd_says) 0 0 (-1) rd_length rd_place rd_kind rd_start rd_value) ++ (wo_X6 cI cZ tp_h tp_ad tp_words tp_length)) := hD
  refine lv_aload_n hx hb dX3_read_23 rfl (lv_at hl 0 rfl) ?_
  refine lv_iload_n hx hb dX3_read_24 rfl (lv_at hl 1 rfl) ?_
  refine va_put (D := D) (ci := 3) (v := .int x1) (ty := .int) (C := RX3) (T := TX3) (N := 10) hx hb hts mi_X3_read_X3 tyX3 tyX3_ok nmX3 hown hK hP hD hS 0 rfl rfl 5 (by decide) (hts (.fieldLink RX3 35 "HiringHall$Reader" "length" "I") (List.mem_of_getElem? (i := 5) rfl)) (fun _ h9 => h9) rfl (by decide +kernel) rfl rfl (Nat.le_of_ble_eq_true rfl) dX3_read_25 (fun H locs hP hD hS => ?_)
  have hP : va_P D vwCl ((wo_X3 cI cZ rd_h rd_ad tp_h (mk_fill 8 (-1) rd_says) 0 0 (-1) x1 rd_place rd_kind rd_start rd_value) ++ (wo_X6 cI cZ tp_h tp_ad tp_words tp_length)) H := hP
  have hD : va_D A ((wo_X3 cI cZ rd_h rd_ad tp_h (mk_fill 8 (-1) rd_says) 0 0 (-1) x1 rd_place rd_kind rd_start rd_value) ++ (wo_X6 cI cZ tp_h tp_ad tp_words tp_length)) := hD
  refine lv_aload_n hx hb dX3_read_28 rfl (lv_at hl 0 rfl) ?_
  refine lv_iconst (v := 0) hx hb dX3_read_29 (by decide) ?_
  refine va_put (D := D) (ci := 3) (v := .int 0) (ty := .int) (C := RX3) (T := TX3) (N := 10) hx hb hts mi_X3_read_X3 tyX3 tyX3_ok nmX3 hown hK hP hD hS 0 rfl rfl 6 (by decide) (hts (.fieldLink RX3 38 "HiringHall$Reader" "place" "I") (List.mem_of_getElem? (i := 6) rfl)) (fun _ h9 => h9) rfl (by decide +kernel) rfl rfl (Nat.le_of_ble_eq_true rfl) dX3_read_30 (fun H locs hP hD hS => ?_)
  have hP : va_P D vwCl ((wo_X3 cI cZ rd_h rd_ad tp_h (mk_fill 8 (-1) rd_says) 0 0 (-1) x1 0 rd_kind rd_start rd_value) ++ (wo_X6 cI cZ tp_h tp_ad tp_words tp_length)) H := hP
  have hD : va_D A ((wo_X3 cI cZ rd_h rd_ad tp_h (mk_fill 8 (-1) rd_says) 0 0 (-1) x1 0 rd_kind rd_start rd_value) ++ (wo_X6 cI cZ tp_h tp_ad tp_words tp_length)) := hD
  refine lv_aload_n hx hb dX3_read_33 rfl (lv_at hl 0 rfl) ?_
  have hP : va_P D vwCl ((fun v => v) ((wo_X3 cI cZ rd_h rd_ad tp_h (mk_fill 8 (-1) rd_says) 0 0 (-1) x1 0 rd_kind rd_start rd_value) ++ (wo_X6 cI cZ tp_h tp_ad tp_words tp_length))) H := hP
  have hD : va_D A ((fun v => v) ((wo_X3 cI cZ rd_h rd_ad tp_h (mk_fill 8 (-1) rd_says) 0 0 (-1) x1 0 rd_kind rd_start rd_value) ++ (wo_X6 cI cZ tp_h tp_ad tp_words tp_length))) := hD
  refine mk_cv (f := fun v => v) mk_fr_id (va_runV (As := []) (rest := []) ⟨hx, hb, hml, hown, hts⟩ (c_X3_nextToken l D cI cZ E rd_h rd_ad tp_h tp_ad (mk_fill 8 (-1) rd_says) 0 0 (-1) x1 0 rd_kind rd_start rd_value tp_words tp_length _ h H.size) (cwV 0 hts gX3_read_X3_nextToken rfl rfl rfl (by decide +kernel) ⟨Nat.le_of_ble_eq_true rfl, Nat.le_of_ble_eq_true rfl⟩) (mk_preV (ci := 3) mk_fr_id hK hN hE hS hA hP hD rfl rfl) rfl rfl hl.1 rfl (lv_room (Nat.le_of_ble_eq_true rfl)) dX3_read_34 ⟨Nat.le_of_ble_eq_true rfl, Nat.le_of_ble_eq_true rfl⟩) hP hD hS hA (fun u H locs h hP hD hS => ?_)
  obtain ⟨y13, y14, y15, y16⟩ := u
  try dsimp only at h
  have hP : va_P D vwCl ((wo_X3 cI cZ rd_h rd_ad tp_h (mk_fill 8 (-1) rd_says) 0 0 (-1) x1 y13 y14 y15 y16) ++ (wo_X6 cI cZ tp_h tp_ad tp_words tp_length)) H := hP
  have hD : va_D A ((wo_X3 cI cZ rd_h rd_ad tp_h (mk_fill 8 (-1) rd_says) 0 0 (-1) x1 y13 y14 y15 y16) ++ (wo_X6 cI cZ tp_h tp_ad tp_words tp_length)) := hD
  refine lv_iconst (v := 0) hx hb dX3_read_37 (by decide) ?_
  refine lv_istore_n (lv' := [(2, .int 0), (0, .ref rd_h), (1, .int x1)]) hx hb dX3_read_38 rfl hl (by decide) rfl (fun ls hl => ?_)
  obtain ⟨n, h⟩ := h
  exact b39  n (mk_fill 8 (-1) rd_says) 0 0 (-1) x1 y13 y14 y15 y16 0 h _ _ _ hP hD hS (lv_sub hl [1, 0] rfl)
