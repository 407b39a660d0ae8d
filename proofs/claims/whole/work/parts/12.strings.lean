/-! The JDK's text members over the constants. -/
def mk_ch (i k : Nat) : Int32 := (mk_byt.getD i []).getD k 0
theorem mk_preR {s : State} {H : Heap} {D : va_G} {cI cZ : ClassId} {E : (Nat → Nat) × (Nat → Nat)} {As : List Value} {f : va_W → va_W} {A : Nat → Prop} {locs : List Loc} {i : Nat} (FR : mk_Frame f) (hK : va_K D vwCl (mk_tys cI cZ) s) (hN : mk_NW s) (hE : mk_Str E A s s.heap) (hS : va_S A s.heap H locs) (hA : ∀ q, s.heap.size ≤ q → A q) (hP : va_P D vwCl (f []) H) (hD : va_D A (f [])) (hi : i < 7) : PreV s H "java/lang/String" (E.1 i) (mk_Pc D cI cZ E H.size (.ref (E.1 i) :: As) []) As :=
  ⟨mk_blind, vk_recv hE.1 hi hS, (mk_preS (As := .ref (E.1 i) :: As) FR hK hN hE hS hA hP hD).2⟩
theorem mk_len_ok : ∀ i, i < 7 → Int32.ofNat (mk_len.getD i 0) >>> ((0 : Int32) &&& 31) = nI (mk_len.getD i 0) ∧ mk_len.getD i 0 < 2 ^ 31 := by decide +kernel
theorem mk_ch_ok : ∀ i, i < 7 → ∀ k, k < mk_len.getD i 0 → ((mk_ch i k &&& 255).toUInt32 % 65536).toInt32 = mk_ch i k ∧ narrow .char (.int (mk_ch i k)) = .int (mk_ch i k) := by decide +kernel
def rm_J0_coder_7d493 : Room := { frames := 0, cells := 0, slots := 0, locals := 0 }
set_option maxHeartbeats 4000000 in
set_option maxRecDepth 100000 in
theorem c_coder (l : Launch) (D : va_G) (cI cZ : ClassId) (E : (Nat → Nat) × (Nat → Nat)) (i : Nat) (hi : i < 7) : mk_Ci l D cI cZ E yJ0_coder_7d493 wsJ0_coder_7d493 rm_J0_coder_7d493 ([.ref (E.1 i)] : List Value) ([] : va_W) (fun (_ : Unit) => ([] : va_W)) (fun (r : Int32) (_ : Unit) => r = 0) := by
  intro sz
  refine Met.ofW (cc := cJ0_coder_7d493) (maxL := 1) (ret := (some .byte)) (by decide) rfl ?_
  intro p e s m args below meth c s₁ B hml hv
  obtain ⟨rfl, hsz, hP, hK, hD0, hN, hE⟩ := hv
  have hx := B.exec
  have hb := B.bytes
  have hr := B.returns
  have hts := atoms_spec (ws := wsJ0_coder_7d493) B.pre
  have hown : s.vm.findClass RJ0 = some m.cls := findClass_of_methodNamed B.named
  have hlocks := B.notSynchronized
  subst hsz
  have hD := hD0.self (sz := s.heap.size)
  generalize hAe : va_A ([] : va_W) s.heap.size = A at hD hE ⊢
  have hA : ∀ q : Nat, s.heap.size ≤ q → A q := fun q h => by rw [← hAe]; exact Or.inr h
  have hS : va_S A s.heap s.heap [] := va_S.rf
  have hl := lv_entry ([.ref (E.1 i)] : List Value) (n := 1) (Nat.le_of_ble_eq_true rfl)
  rw [lg_entry_eq]
  generalize (lg_sl ([.ref (E.1 i)] : List Value) ++ List.replicate (1 - (lg_sl ([.ref (E.1 i)] : List Value)).length) Slot.unset).toArray = ls at hl ⊢
  have hl : lv_has ls 1 [(0, .ref (E.1 i))] := hl
  refine va_gets hx hb hE.2.1 hS hown (hts (.fieldLink RJ0 38 "java/lang/String" "COMPACT_STRINGS" "Z") (List.mem_of_getElem? (i := 1) rfl)) (fun _ h => h) dJ0_coder_7d493_0 ?_
  refine lv_if_eq (tgt := 13) hx hb dJ0_coder_7d493_3 (by decide) (fun c_1 => absurd c_1 (by decide)) (fun _ => ?_)
  refine lv_aload_n hx hb dJ0_coder_7d493_6 rfl (lv_at hl 0 rfl) ?_
  refine vk_getf hx hb (hE.1.1 i hi).2.1 hS hown (hts (.fieldLink RJ0 15 "java/lang/String" "coder" "B") (List.mem_of_getElem? (i := 2) rfl)) (fun _ h => h) dJ0_coder_7d493_7 ?_
  refine lv_goto (tgt := 14) hx hb dJ0_coder_7d493_10 (by decide) ?_
  exact W.zret (v := 0) hx hb hr (rfl) (fun t ht hW => ⟨⟨0, (), rfl, rfl, by rw [ht]; exact hP, va_K.moved hW.alike hK, hD⟩, hS.F ht⟩) hS.2.2 dJ0_coder_7d493_14
def rm_J0_length_8abf5 : Room := { frames := 1, cells := 0, slots := 0, locals := 20 }
set_option maxHeartbeats 4000000 in
set_option maxRecDepth 100000 in
theorem c_strlen (l : Launch) (D : va_G) (cI cZ : ClassId) (E : (Nat → Nat) × (Nat → Nat)) (i : Nat) (hi : i < 7) : mk_Ci l D cI cZ E yJ0_length_8abf5 wsJ0_length_8abf5 rm_J0_length_8abf5 ([.ref (E.1 i)] : List Value) ([] : va_W) (fun (_ : Unit) => ([] : va_W)) (fun (r : Int32) (_ : Unit) => r = nI (mk_len.getD i 0)) := by
  intro sz
  refine Met.ofW (cc := cJ0_length_8abf5) (maxL := 1) (ret := (some .int)) (by decide) rfl ?_
  intro p e s m args below meth c s₁ B hml hv
  obtain ⟨rfl, hsz, hP, hK, hD0, hN, hE⟩ := hv
  have hx := B.exec
  have hb := B.bytes
  have hr := B.returns
  have hts := atoms_spec (ws := wsJ0_length_8abf5) B.pre
  have hown : s.vm.findClass RJ0 = some m.cls := findClass_of_methodNamed B.named
  have hlocks := B.notSynchronized
  subst hsz
  have hD := hD0.self (sz := s.heap.size)
  generalize hAe : va_A ([] : va_W) s.heap.size = A at hD hE ⊢
  have hA : ∀ q : Nat, s.heap.size ≤ q → A q := fun q h => by rw [← hAe]; exact Or.inr h
  have hS : va_S A s.heap s.heap [] := va_S.rf
  have hl := lv_entry ([.ref (E.1 i)] : List Value) (n := 1) (Nat.le_of_ble_eq_true rfl)
  rw [lg_entry_eq]
  generalize (lg_sl ([.ref (E.1 i)] : List Value) ++ List.replicate (1 - (lg_sl ([.ref (E.1 i)] : List Value)).length) Slot.unset).toArray = ls at hl ⊢
  have hl : lv_has ls 1 [(0, .ref (E.1 i))] := hl
  refine lv_aload_n hx hb dJ0_length_8abf5_0 rfl (lv_at hl 0 rfl) ?_
  refine vk_getf hx hb (hE.1.1 i hi).2.2.1 hS hown (hts (.fieldLink RJ0 9 "java/lang/String" "value" "[B") (List.mem_of_getElem? (i := 1) rfl)) (fun _ h => h) dJ0_length_8abf5_1 ?_
  refine va_tlen (v := Int32.ofNat (mk_len.getD i 0)) hx hb (hE.1.1 i hi).2.2.2 hS rfl dJ0_length_8abf5_4 ?_
  refine lv_aload_n hx hb dJ0_length_8abf5_5 rfl (lv_at hl 0 rfl) ?_
  have hP : va_P D vwCl ((fun v => v ++ ([] : va_W)) []) s.heap := hP
  have hD : va_D A ((fun v => v ++ ([] : va_W)) []) := hD
  refine mk_ci (f := fun v => v ++ ([] : va_W)) (mk_fr_hd _) (va_runV (As := []) (rest := [.int (Int32.ofNat (mk_len.getD i 0))]) ⟨hx, hb, hml, hown, hts⟩ (c_coder l D cI cZ E i hi s.heap.size) (cwV 0 hts gJ0_length_8abf5_J0_coder_7d493 rfl rfl rfl (by decide +kernel) ⟨Nat.le_of_ble_eq_true rfl, Nat.le_of_ble_eq_true rfl⟩) (mk_preR (mk_fr_hd _) hK hN hE hS hA hP hD hi) rfl rfl hl.1 rfl (lv_room (Nat.le_of_ble_eq_true rfl)) dJ0_length_8abf5_6 ⟨Nat.le_of_ble_eq_true rfl, Nat.le_of_ble_eq_true rfl⟩) hP hD hS hA (fun r u H locs h hP hD hS => ?_)
  subst h
  refine lv_ishr hx hb dJ0_length_8abf5_9 ?_
  exact W.iret (v := (Int32.ofNat (mk_len.getD i 0) >>> ((0 : Int32) &&& 31))) hx hb hr (fun t ht hW => ⟨⟨(Int32.ofNat (mk_len.getD i 0) >>> ((0 : Int32) &&& 31)), (), rfl, (mk_len_ok i hi).1, by rw [ht]; exact hP, va_K.moved hW.alike hK, hD⟩, hS.F ht⟩) hS.2.2 dJ0_length_8abf5_10
def rm_J0_isLatin1_aae02 : Room := { frames := 0, cells := 0, slots := 0, locals := 0 }
set_option maxHeartbeats 4000000 in
set_option maxRecDepth 100000 in
theorem c_isLatin1 (l : Launch) (D : va_G) (cI cZ : ClassId) (E : (Nat → Nat) × (Nat → Nat)) (i : Nat) (hi : i < 7) : mk_Ci l D cI cZ E yJ0_isLatin1_aae02 wsJ0_isLatin1_aae02 rm_J0_isLatin1_aae02 ([.ref (E.1 i)] : List Value) ([] : va_W) (fun (_ : Unit) => ([] : va_W)) (fun (r : Int32) (_ : Unit) => r = 1) := by
  intro sz
  refine Met.ofW (cc := cJ0_isLatin1_aae02) (maxL := 1) (ret := (some .boolean)) (by decide) rfl ?_
  intro p e s m args below meth c s₁ B hml hv
  obtain ⟨rfl, hsz, hP, hK, hD0, hN, hE⟩ := hv
  have hx := B.exec
  have hb := B.bytes
  have hr := B.returns
  have hts := atoms_spec (ws := wsJ0_isLatin1_aae02) B.pre
  have hown : s.vm.findClass RJ0 = some m.cls := findClass_of_methodNamed B.named
  have hlocks := B.notSynchronized
  subst hsz
  have hD := hD0.self (sz := s.heap.size)
  generalize hAe : va_A ([] : va_W) s.heap.size = A at hD hE ⊢
  have hA : ∀ q : Nat, s.heap.size ≤ q → A q := fun q h => by rw [← hAe]; exact Or.inr h
  have hS : va_S A s.heap s.heap [] := va_S.rf
  have hl := lv_entry ([.ref (E.1 i)] : List Value) (n := 1) (Nat.le_of_ble_eq_true rfl)
  rw [lg_entry_eq]
  generalize (lg_sl ([.ref (E.1 i)] : List Value) ++ List.replicate (1 - (lg_sl ([.ref (E.1 i)] : List Value)).length) Slot.unset).toArray = ls at hl ⊢
  have hl : lv_has ls 1 [(0, .ref (E.1 i))] := hl
  refine va_gets hx hb hE.2.1 hS hown (hts (.fieldLink RJ0 38 "java/lang/String" "COMPACT_STRINGS" "Z") (List.mem_of_getElem? (i := 1) rfl)) (fun _ h => h) dJ0_isLatin1_aae02_0 ?_
  refine lv_if_eq (tgt := 17) hx hb dJ0_isLatin1_aae02_3 (by decide) (fun c_1 => absurd c_1 (by decide)) (fun _ => ?_)
  refine lv_aload_n hx hb dJ0_isLatin1_aae02_6 rfl (lv_at hl 0 rfl) ?_
  refine vk_getf hx hb (hE.1.1 i hi).2.1 hS hown (hts (.fieldLink RJ0 15 "java/lang/String" "coder" "B") (List.mem_of_getElem? (i := 2) rfl)) (fun _ h => h) dJ0_isLatin1_aae02_7 ?_
  refine lv_if_ne (tgt := 17) hx hb dJ0_isLatin1_aae02_10 (by decide) (fun c_1 => absurd rfl c_1) (fun _ => ?_)
  refine lv_iconst (v := 1) hx hb dJ0_isLatin1_aae02_13 (by decide) ?_
  refine lv_goto (tgt := 18) hx hb dJ0_isLatin1_aae02_14 (by decide) ?_
  exact W.zret (v := 1) hx hb hr (rfl) (fun t ht hW => ⟨⟨1, (), rfl, rfl, by rw [ht]; exact hP, va_K.moved hW.alike hK, hD⟩, hS.F ht⟩) hS.2.2 dJ0_isLatin1_aae02_18
def rm_J3_checkIndex_8e157 : Room := { frames := 0, cells := 0, slots := 0, locals := 0 }
set_option maxHeartbeats 4000000 in
set_option maxRecDepth 100000 in
theorem c_preCheck (l : Launch) (D : va_G) (cI cZ : ClassId) (E : (Nat → Nat) × (Nat → Nat)) (x0 x1 : Int32) (vf : Value) (hc : vf.category = 1) (h0 : ¬ x0 < 0) (h1 : x0 < x1) : mk_Ci l D cI cZ E yJ3_checkIndex_8e157 wsJ3_checkIndex_8e157 rm_J3_checkIndex_8e157 ([.int x0, .int x1, vf] : List Value) ([] : va_W) (fun (_ : Unit) => ([] : va_W)) (fun (r : Int32) (_ : Unit) => r = x0) := by
  intro sz
  refine Met.ofW (cc := cJ3_checkIndex_8e157) (maxL := 3) (ret := (some .int)) (by decide) rfl ?_
  intro p e s m args below meth c s₁ B hml hv
  obtain ⟨rfl, hsz, hP, hK, hD0, hN, hE⟩ := hv
  have hx := B.exec
  have hb := B.bytes
  have hr := B.returns
  have hts := atoms_spec (ws := wsJ3_checkIndex_8e157) B.pre
  have hown : s.vm.findClass RJ3 = some m.cls := findClass_of_methodNamed B.named
  have hlocks := B.notSynchronized
  subst hsz
  have hD := hD0.self (sz := s.heap.size)
  generalize hAe : va_A ([] : va_W) s.heap.size = A at hD hE ⊢
  have hA : ∀ q : Nat, s.heap.size ≤ q → A q := fun q h => by rw [← hAe]; exact Or.inr h
  have hS : va_S A s.heap s.heap [] := va_S.rf
  have hlen : (lg_sl ([.int x0, .int x1, vf] : List Value)).length ≤ 3 := by cases vf <;> first | exact Nat.le_refl 3 | (simp [Value.category] at hc)
  have hl := lv_entry ([.int x0, .int x1, vf] : List Value) (n := 3) hlen
  rw [lg_entry_eq]
  generalize (lg_sl ([.int x0, .int x1, vf] : List Value) ++ List.replicate (3 - (lg_sl ([.int x0, .int x1, vf] : List Value)).length) Slot.unset).toArray = ls at hl ⊢
  have hl : lv_has ls 3 [(0, .int x0), (1, .int x1)] := ⟨hl.1, hl.2.1, fun q hq => hl.2.2 q (by
    rcases List.mem_cons.mp hq with h | h
    · rw [h]; exact List.mem_cons_self
    · rcases List.mem_cons.mp h with h | h
      · rw [h]; exact List.mem_cons_of_mem _ List.mem_cons_self
      · cases h)⟩
  refine lv_iload_n hx hb dJ3_checkIndex_8e157_0 rfl (lv_at hl 0 rfl) ?_
  refine lv_if_lt (tgt := 9) hx hb dJ3_checkIndex_8e157_1 (by decide) (fun c_1 => absurd c_1 h0) (fun _ => ?_)
  refine lv_iload_n hx hb dJ3_checkIndex_8e157_4 rfl (lv_at hl 0 rfl) ?_
  refine lv_iload_n hx hb dJ3_checkIndex_8e157_5 rfl (lv_at hl 1 rfl) ?_
  refine lv_icmp_lt (tgt := 16) hx hb dJ3_checkIndex_8e157_6 (by decide) (fun _ => ?_) (fun c_1 => absurd h1 c_1)
  refine lv_iload_n hx hb dJ3_checkIndex_8e157_16 rfl (lv_at hl 0 rfl) ?_
  exact W.iret (v := x0) hx hb hr (fun t ht hW => ⟨⟨x0, (), rfl, rfl, by rw [ht]; exact hP, va_K.moved hW.alike hK, hD⟩, hS.F ht⟩) hS.2.2 dJ3_checkIndex_8e157_17
def rm_J0_checkIndex_df160 : Room := { frames := 1, cells := 0, slots := 0, locals := 22 }
set_option maxHeartbeats 4000000 in
set_option maxRecDepth 100000 in
theorem c_strCheck (l : Launch) (D : va_G) (cI cZ : ClassId) (E : (Nat → Nat) × (Nat → Nat)) (x0 x1 : Int32) (h0 : ¬ x0 < 0) (h1 : x0 < x1) : mk_Cv l D cI cZ E yJ0_checkIndex_df160 wsJ0_checkIndex_df160 rm_J0_checkIndex_df160 ([.int x0, .int x1] : List Value) ([] : va_W) (fun (_ : Unit) => ([] : va_W)) (fun (_ : Unit) => True) := by
  intro sz
  refine Met.ofW (cc := cJ0_checkIndex_df160) (maxL := 2) (ret := none) (by decide) rfl ?_
  intro p e s m args below meth c s₁ B hml hv
  obtain ⟨rfl, hsz, hP, hK, hD0, hN, hE⟩ := hv
  have hx := B.exec
  have hb := B.bytes
  have hr := B.returns
  have hts := atoms_spec (ws := wsJ0_checkIndex_df160) B.pre
  have hown : s.vm.findClass RJ0 = some m.cls := findClass_of_methodNamed B.named
  have hlocks := B.notSynchronized
  subst hsz
  have hD := hD0.self (sz := s.heap.size)
  generalize hAe : va_A ([] : va_W) s.heap.size = A at hD hE ⊢
  have hA : ∀ q : Nat, s.heap.size ≤ q → A q := fun q h => by rw [← hAe]; exact Or.inr h
  have hS : va_S A s.heap s.heap [] := va_S.rf
  have hl := lv_entry ([.int x0, .int x1] : List Value) (n := 2) (Nat.le_of_ble_eq_true rfl)
  rw [lg_entry_eq]
  generalize (lg_sl ([.int x0, .int x1] : List Value) ++ List.replicate (2 - (lg_sl ([.int x0, .int x1] : List Value)).length) Slot.unset).toArray = ls at hl ⊢
  have hl : lv_has ls 2 [(0, .int x0), (1, .int x1)] := hl
  refine lv_iload_n hx hb dJ0_checkIndex_df160_0 rfl (lv_at hl 0 rfl) ?_
  refine lv_iload_n hx hb dJ0_checkIndex_df160_1 rfl (lv_at hl 1 rfl) ?_
  have hP : va_P D vwCl ((fun v => v ++ ([] : va_W)) []) s.heap := hP
  have hD : va_D A ((fun v => v ++ ([] : va_W)) []) := hD
  have key : ∀ vf : Value, vf.category = 1 → va_Z "jdk/internal/util/Preconditions" "SIOOBE_FORMATTER" "Ljava/util/function/BiFunction;" vf A s s.heap → W p l e (headSpec wsJ0_checkIndex_df160 rm_J0_checkIndex_df160).room s m ([.int x0, .int x1] : List Value).toArray below meth c s.heap [] 0 0 (MQ below (va_Qv (fun (_ : Unit) => True) (fun u t => mk_B D cI cZ A ((fun (_ : Unit) => ([] : va_W)) u) t) A) ([.int x0, .int x1] : List Value).toArray s 0 0 A) (F0 m 2 ls [.int x1, .int x0]) := by
    intro vf hc hZ
    refine va_gets hx hb hZ hS hown (hts (.fieldLink RJ0 1053 "jdk/internal/util/Preconditions" "SIOOBE_FORMATTER" "Ljava/util/function/BiFunction;") (List.mem_of_getElem? (i := 1) rfl)) (fun _ h => h) dJ0_checkIndex_df160_2 ?_
    refine mk_ci (f := fun v => v ++ ([] : va_W)) (mk_fr_hd _) (va_runS (As := [.int x0, .int x1, vf]) (rest := []) ⟨hx, hb, hml, hown, hts⟩ (c_preCheck l D cI cZ E x0 x1 vf hc h0 h1 s.heap.size) (va_cwS 3 hts gJ0_checkIndex_df160_J3_checkIndex_8e157 rfl rfl rfl (by decide +kernel) ⟨Nat.le_of_ble_eq_true rfl, Nat.le_of_ble_eq_true rfl⟩) (mk_preS (mk_fr_hd _) hK hN hE hS hA hP hD) rfl rfl hl.1 rfl (lv_room (Nat.le_of_ble_eq_true rfl)) dJ0_checkIndex_df160_5 ⟨Nat.le_of_ble_eq_true rfl, Nat.le_of_ble_eq_true rfl⟩) hP hD hS hA (fun r u H locs h hP hD hS => ?_)
    refine lv_pop hx hb dJ0_checkIndex_df160_8 rfl ?_
    exact W.vret hx hb hr (fun t ht hW => ⟨⟨(), rfl, trivial, by rw [ht]; exact hP, va_K.moved hW.alike hK, hD⟩, hS.F ht⟩) hS.2.2 dJ0_checkIndex_df160_9
  rcases hE.2.2.1 with h | ⟨t, h⟩
  · exact key _ rfl h
  · exact key _ rfl h
def rm_J1_charAt_3b067 : Room := { frames := 2, cells := 0, slots := 0, locals := 43 }
set_option maxHeartbeats 4000000 in
set_option maxRecDepth 100000 in
theorem c_latCharAt (l : Launch) (D : va_G) (cI cZ : ClassId) (E : (Nat → Nat) × (Nat → Nat)) (i : Nat) (hi : i < 7) (x1 : Int32) (hk : vp_in x1 (mk_len.getD i 0)) : mk_Ci l D cI cZ E yJ1_charAt_3b067 wsJ1_charAt_3b067 rm_J1_charAt_3b067 ([.ref (E.2 i), .int x1] : List Value) ([] : va_W) (fun (_ : Unit) => ([] : va_W)) (fun (r : Int32) (_ : Unit) => r = mk_ch i x1.toNatClampNeg) := by
  intro sz
  refine Met.ofW (cc := cJ1_charAt_3b067) (maxL := 2) (ret := (some .char)) (by decide) rfl ?_
  intro p e s m args below meth c s₁ B hml hv
  obtain ⟨rfl, hsz, hP, hK, hD0, hN, hE⟩ := hv
  have hx := B.exec
  have hb := B.bytes
  have hr := B.returns
  have hts := atoms_spec (ws := wsJ1_charAt_3b067) B.pre
  have hown : s.vm.findClass RJ1 = some m.cls := findClass_of_methodNamed B.named
  have hlocks := B.notSynchronized
  subst hsz
  have hD := hD0.self (sz := s.heap.size)
  generalize hAe : va_A ([] : va_W) s.heap.size = A at hD hE ⊢
  have hA : ∀ q : Nat, s.heap.size ≤ q → A q := fun q h => by rw [← hAe]; exact Or.inr h
  have hS : va_S A s.heap s.heap [] := va_S.rf
  have hl := lv_entry ([.ref (E.2 i), .int x1] : List Value) (n := 2) (Nat.le_of_ble_eq_true rfl)
  rw [lg_entry_eq]
  generalize (lg_sl ([.ref (E.2 i), .int x1] : List Value) ++ List.replicate (2 - (lg_sl ([.ref (E.2 i), .int x1] : List Value)).length) Slot.unset).toArray = ls at hl ⊢
  have hl : lv_has ls 2 [(0, .ref (E.2 i)), (1, .int x1)] := hl
  have hlen := (mk_len_ok i hi).2
  obtain ⟨j, hj, hxj⟩ := vp_in_of hk hlen
  have h0 : ¬ x1 < 0 := by rw [hxj]; exact nI_pos (by omega)
  have h1 : x1 < nI (mk_len.getD i 0) := by rw [hxj]; exact nI_lt hj hlen
  have hcl : x1.toNatClampNeg = j := by rw [hxj]; exact nI_clamp (by omega)
  refine lv_iload_n hx hb dJ1_charAt_3b067_0 rfl (lv_at hl 1 rfl) ?_
  refine lv_aload_n hx hb dJ1_charAt_3b067_1 rfl (lv_at hl 0 rfl) ?_
  refine va_tlen (v := nI (mk_len.getD i 0)) hx hb (hE.1.1 i hi).2.2.2 hS rfl dJ1_charAt_3b067_2 ?_
  have hP : va_P D vwCl ((fun v => v ++ ([] : va_W)) []) s.heap := hP
  have hD : va_D A ((fun v => v ++ ([] : va_W)) []) := hD
  refine mk_cv (f := fun v => v ++ ([] : va_W)) (mk_fr_hd _) (va_runS (As := [.int x1, .int (nI (mk_len.getD i 0))]) (rest := []) ⟨hx, hb, hml, hown, hts⟩ (c_strCheck l D cI cZ E x1 (nI (mk_len.getD i 0)) h0 h1 s.heap.size) (va_cwS 2 hts gJ1_charAt_3b067_J0_checkIndex_df160 rfl rfl rfl (by decide +kernel) ⟨Nat.le_of_ble_eq_true rfl, Nat.le_of_ble_eq_true rfl⟩) (mk_preS (mk_fr_hd _) hK hN hE hS hA hP hD) rfl rfl hl.1 rfl (lv_room (Nat.le_of_ble_eq_true rfl)) dJ1_charAt_3b067_3 ⟨Nat.le_of_ble_eq_true rfl, Nat.le_of_ble_eq_true rfl⟩) hP hD hS hA (fun u H locs h hP hD hS => ?_)
  refine lv_aload_n hx hb dJ1_charAt_3b067_6 rfl (lv_at hl 0 rfl) ?_
  refine lv_iload_n hx hb dJ1_charAt_3b067_7 rfl (lv_at hl 1 rfl) ?_
  refine va_tb (v := .int (mk_ch i j)) hx hb (hE.1.1 i hi).2.2.2 hS hk (by rw [hcl]; rfl) dJ1_charAt_3b067_8 ?_
  refine lv_sipush (v := 255) hx hb dJ1_charAt_3b067_9 (by decide) ?_
  refine lv_iand hx hb dJ1_charAt_3b067_12 ?_
  refine lv_i2c (v := mk_ch i j) hx hb dJ1_charAt_3b067_13 (mk_ch_ok i hi j hj).1 ?_
  exact W.zret (v := (mk_ch i j)) hx hb hr ((mk_ch_ok i hi j hj).2) (fun t ht hW => ⟨⟨(mk_ch i j), (), rfl, by rw [hcl], by rw [ht]; exact hP, va_K.moved hW.alike hK, hD⟩, hS.F ht⟩) hS.2.2 dJ1_charAt_3b067_14
def rm_J0_charAt_5068e : Room := { frames := 3, cells := 0, slots := 0, locals := 64 }
set_option maxHeartbeats 4000000 in
set_option maxRecDepth 100000 in
theorem c_charAt (l : Launch) (D : va_G) (cI cZ : ClassId) (E : (Nat → Nat) × (Nat → Nat)) (i : Nat) (hi : i < 7) (x1 : Int32) (hk : vp_in x1 (mk_len.getD i 0)) : mk_Ci l D cI cZ E yJ0_charAt_5068e wsJ0_charAt_5068e rm_J0_charAt_5068e ([.ref (E.1 i), .int x1] : List Value) ([] : va_W) (fun (_ : Unit) => ([] : va_W)) (fun (r : Int32) (_ : Unit) => r = mk_ch i x1.toNatClampNeg) := by
  intro sz
  refine Met.ofW (cc := cJ0_charAt_5068e) (maxL := 2) (ret := (some .char)) (by decide) rfl ?_
  intro p e s m args below meth c s₁ B hml hv
  obtain ⟨rfl, hsz, hP, hK, hD0, hN, hE⟩ := hv
  have hx := B.exec
  have hb := B.bytes
  have hr := B.returns
  have hts := atoms_spec (ws := wsJ0_charAt_5068e) B.pre
  have hown : s.vm.findClass RJ0 = some m.cls := findClass_of_methodNamed B.named
  have hlocks := B.notSynchronized
  subst hsz
  have hD := hD0.self (sz := s.heap.size)
  generalize hAe : va_A ([] : va_W) s.heap.size = A at hD hE ⊢
  have hA : ∀ q : Nat, s.heap.size ≤ q → A q := fun q h => by rw [← hAe]; exact Or.inr h
  have hS : va_S A s.heap s.heap [] := va_S.rf
  have hl := lv_entry ([.ref (E.1 i), .int x1] : List Value) (n := 2) (Nat.le_of_ble_eq_true rfl)
  rw [lg_entry_eq]
  generalize (lg_sl ([.ref (E.1 i), .int x1] : List Value) ++ List.replicate (2 - (lg_sl ([.ref (E.1 i), .int x1] : List Value)).length) Slot.unset).toArray = ls at hl ⊢
  have hl : lv_has ls 2 [(0, .ref (E.1 i)), (1, .int x1)] := hl
  have hlen := (mk_len_ok i hi).2
  obtain ⟨j, hj, hxj⟩ := vp_in_of hk hlen
  have hcl : x1.toNatClampNeg = j := by rw [hxj]; exact nI_clamp (by omega)
  refine lv_aload_n hx hb dJ0_charAt_5068e_0 rfl (lv_at hl 0 rfl) ?_
  have hP : va_P D vwCl ((fun v => v ++ ([] : va_W)) []) s.heap := hP
  have hD : va_D A ((fun v => v ++ ([] : va_W)) []) := hD
  refine mk_ci (f := fun v => v ++ ([] : va_W)) (mk_fr_hd _) (va_runV (As := []) (rest := []) ⟨hx, hb, hml, hown, hts⟩ (c_isLatin1 l D cI cZ E i hi s.heap.size) (cwV 0 hts gJ0_charAt_5068e_J0_isLatin1_aae02 rfl rfl rfl (by decide +kernel) ⟨Nat.le_of_ble_eq_true rfl, Nat.le_of_ble_eq_true rfl⟩) (mk_preR (mk_fr_hd _) hK hN hE hS hA hP hD hi) rfl rfl hl.1 rfl (lv_room (Nat.le_of_ble_eq_true rfl)) dJ0_charAt_5068e_1 ⟨Nat.le_of_ble_eq_true rfl, Nat.le_of_ble_eq_true rfl⟩) hP hD hS hA (fun r u H locs h hP hD hS => ?_)
  subst h
  refine lv_if_eq (tgt := 16) hx hb dJ0_charAt_5068e_4 (by decide) (fun c_1 => absurd c_1 (by decide)) (fun _ => ?_)
  refine lv_aload_n hx hb dJ0_charAt_5068e_7 rfl (lv_at hl 0 rfl) ?_
  refine vk_getf hx hb (hE.1.1 i hi).2.2.1 hS hown (hts (.fieldLink RJ0 9 "java/lang/String" "value" "[B") (List.mem_of_getElem? (i := 1) rfl)) (fun _ h => h) dJ0_charAt_5068e_8 ?_
  refine lv_iload_n hx hb dJ0_charAt_5068e_11 rfl (lv_at hl 1 rfl) ?_
  refine mk_ci (f := fun v => v ++ ([] : va_W)) (mk_fr_hd _) (va_runS (As := [.ref (E.2 i), .int x1]) (rest := []) ⟨hx, hb, hml, hown, hts⟩ (c_latCharAt l D cI cZ E i hi x1 hk H.size) (va_cwS 2 hts gJ0_charAt_5068e_J1_charAt_3b067 rfl rfl rfl (by decide +kernel) ⟨Nat.le_of_ble_eq_true rfl, Nat.le_of_ble_eq_true rfl⟩) (mk_preS (mk_fr_hd _) hK hN hE hS hA hP hD) rfl rfl hl.1 rfl (lv_room (Nat.le_of_ble_eq_true rfl)) dJ0_charAt_5068e_12 ⟨Nat.le_of_ble_eq_true rfl, Nat.le_of_ble_eq_true rfl⟩) hP hD hS hA (fun r u H locs h hP hD hS => ?_)
  rw [hcl] at h
  subst h
  exact W.zret (v := (mk_ch i j)) hx hb hr ((mk_ch_ok i hi j hj).2) (fun t ht hW => ⟨⟨(mk_ch i j), (), rfl, by rw [hcl], by rw [ht]; exact hP, va_K.moved hW.alike hK, hD⟩, hS.F ht⟩) hS.2.2 dJ0_charAt_5068e_15
def mk_sp (x : Int32) : Nat := if x = 0 then 0 else if x = 1 then 1 else if x = 2 then 2 else if x = 3 then 3 else if x = 4 then 4 else 5
def rm_X3_spelling : Room := { frames := 0, cells := 0, slots := 0, locals := 0 }
set_option maxHeartbeats 4000000 in
set_option maxRecDepth 100000 in
theorem c_spelling (l : Launch) (D : va_G) (cI cZ : ClassId) (E : (Nat → Nat) × (Nat → Nat)) (x0 : Int32) (sz : Nat) : Met l yX3_spelling wsX3_spelling rm_X3_spelling (mk_Pc D cI cZ E sz ([.int x0] : List Value) ([] : va_W)) (va_Qr (fun (u : Nat) => u = mk_sp x0) (fun u a t => a = E.1 u ∧ mk_B D cI cZ (va_A ([] : va_W) sz) ([] : va_W) t) (va_A ([] : va_W) sz)) 0 0 (va_A ([] : va_W) sz) := by
  refine Met.ofW (cc := cX3_spelling) (maxL := 1) (ret := (some (.object "java/lang/String"))) (by decide) rfl ?_
  intro p e s m args below meth c s₁ B hml hv
  obtain ⟨rfl, hsz, hP, hK, hD0, hN, hE⟩ := hv
  have hx := B.exec
  have hb := B.bytes
  have hr := B.returns
  have hts := atoms_spec (ws := wsX3_spelling) B.pre
  have hown : s.vm.findClass RX3 = some m.cls := findClass_of_methodNamed B.named
  have hlocks := B.notSynchronized
  subst hsz
  have hD := hD0.self (sz := s.heap.size)
  generalize hAe : va_A ([] : va_W) s.heap.size = A at hD hE ⊢
  have hA : ∀ q : Nat, s.heap.size ≤ q → A q := fun q h => by rw [← hAe]; exact Or.inr h
  have hS : va_S A s.heap s.heap [] := va_S.rf
  have hl := lv_entry ([.int x0] : List Value) (n := 1) (Nat.le_of_ble_eq_true rfl)
  rw [lg_entry_eq]
  generalize (lg_sl ([.int x0] : List Value) ++ List.replicate (1 - (lg_sl ([.int x0] : List Value)).length) Slot.unset).toArray = ls at hl ⊢
  have hl : lv_has ls 1 [(0, .int x0)] := hl
  refine lv_iload_n hx hb dX3_spelling_0 rfl (lv_at hl 0 rfl) ?_
  rcases Classical.em (x0 = 0) with c_0 | c_0
  · refine lv_tableIn (off := 35) (tgt := 36) hx hb dX3_spelling_1 (by rw [c_0]; decide) (by rw [c_0]; decide) (by rw [c_0]; rfl) (by decide) ?_
    refine va_ldcS hx hb hown (hE.2.2.2 (RX3, 108, "short", 0) (List.mem_of_getElem? (i := 0) rfl)) dX3_spelling_36 ?_
    exact W.aret (v := .ref (E.1 0)) hx hb hr (Or.inl ⟨_, rfl⟩) (Or.inr ⟨_, rfl⟩) (fun t ht hW => ⟨⟨0, E.1 0, rfl, by simp [mk_sp, c_0], rfl, by rw [ht]; exact hP, va_K.moved hW.alike hK, hD⟩, hS.F ht⟩) hS.2.2 dX3_spelling_38
  · skip
    rcases Classical.em (x0 = 1) with c_1 | c_1
    · refine lv_tableIn (off := 38) (tgt := 39) hx hb dX3_spelling_1 (by rw [c_1]; decide) (by rw [c_1]; decide) (by rw [c_1]; rfl) (by decide) ?_
      refine va_ldcS hx hb hown (hE.2.2.2 (RX3, 110, "refuse", 1) (List.mem_of_getElem? (i := 1) rfl)) dX3_spelling_39 ?_
      exact W.aret (v := .ref (E.1 1)) hx hb hr (Or.inl ⟨_, rfl⟩) (Or.inr ⟨_, rfl⟩) (fun t ht hW => ⟨⟨1, E.1 1, rfl, by simp [mk_sp, c_0, c_1], rfl, by rw [ht]; exact hP, va_K.moved hW.alike hK, hD⟩, hS.F ht⟩) hS.2.2 dX3_spelling_41
    · skip
      rcases Classical.em (x0 = 2) with c_2 | c_2
      · refine lv_tableIn (off := 41) (tgt := 42) hx hb dX3_spelling_1 (by rw [c_2]; decide) (by rw [c_2]; decide) (by rw [c_2]; rfl) (by decide) ?_
        refine va_ldcS hx hb hown (hE.2.2.2 (RX3, 112, "answer", 2) (List.mem_of_getElem? (i := 2) rfl)) dX3_spelling_42 ?_
        exact W.aret (v := .ref (E.1 2)) hx hb hr (Or.inl ⟨_, rfl⟩) (Or.inr ⟨_, rfl⟩) (fun t ht hW => ⟨⟨2, E.1 2, rfl, by simp [mk_sp, c_0, c_1, c_2], rfl, by rw [ht]; exact hP, va_K.moved hW.alike hK, hD⟩, hS.F ht⟩) hS.2.2 dX3_spelling_44
      · skip
        rcases Classical.em (x0 = 3) with c_3 | c_3
        · refine lv_tableIn (off := 44) (tgt := 45) hx hb dX3_spelling_1 (by rw [c_3]; decide) (by rw [c_3]; decide) (by rw [c_3]; rfl) (by decide) ?_
          refine va_ldcS hx hb hown (hE.2.2.2 (RX3, 114, "permit", 3) (List.mem_of_getElem? (i := 3) rfl)) dX3_spelling_45 ?_
          exact W.aret (v := .ref (E.1 3)) hx hb hr (Or.inl ⟨_, rfl⟩) (Or.inr ⟨_, rfl⟩) (fun t ht hW => ⟨⟨3, E.1 3, rfl, by simp [mk_sp, c_0, c_1, c_2, c_3], rfl, by rw [ht]; exact hP, va_K.moved hW.alike hK, hD⟩, hS.F ht⟩) hS.2.2 dX3_spelling_47
        · skip
          rcases Classical.em (x0 = 4) with c_4 | c_4
          · refine lv_tableIn (off := 47) (tgt := 48) hx hb dX3_spelling_1 (by rw [c_4]; decide) (by rw [c_4]; decide) (by rw [c_4]; rfl) (by decide) ?_
            refine va_ldcS hx hb hown (hE.2.2.2 (RX3, 116, "name", 4) (List.mem_of_getElem? (i := 4) rfl)) dX3_spelling_48 ?_
            exact W.aret (v := .ref (E.1 4)) hx hb hr (Or.inl ⟨_, rfl⟩) (Or.inr ⟨_, rfl⟩) (fun t ht hW => ⟨⟨4, E.1 4, rfl, by simp [mk_sp, c_0, c_1, c_2, c_3, c_4], rfl, by rw [ht]; exact hP, va_K.moved hW.alike hK, hD⟩, hS.F ht⟩) hS.2.2 dX3_spelling_50
          · skip
            refine lv_tableOut (tgt := 51) hx hb dX3_spelling_1 (by have q0 := lv_neT (a := 0) c_0 (by decide); have q1 := lv_neT (a := 1) c_1 (by decide); have q2 := lv_neT (a := 2) c_2 (by decide); have q3 := lv_neT (a := 3) c_3 (by decide); have q4 := lv_neT (a := 4) c_4 (by decide); omega) (by decide) ?_
            refine va_ldcS hx hb hown (hE.2.2.2 (RX3, 118, "fund", 5) (List.mem_of_getElem? (i := 5) rfl)) dX3_spelling_51 ?_
            exact W.aret (v := .ref (E.1 5)) hx hb hr (Or.inl ⟨_, rfl⟩) (Or.inr ⟨_, rfl⟩) (fun t ht hW => ⟨⟨5, E.1 5, rfl, by simp [mk_sp, c_0, c_1, c_2, c_3, c_4], rfl, by rw [ht]; exact hP, va_K.moved hW.alike hK, hD⟩, hS.F ht⟩) hS.2.2 dX3_spelling_53
