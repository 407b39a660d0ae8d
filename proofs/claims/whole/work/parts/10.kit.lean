/-! My own rows over the kit: one shape of contract for all methods here, frames by appended worlds, nest links. -/
def mk_tys (cI cZ : ClassId) : List (ClassId × FieldType) := [(cI, .int), (cZ, .boolean)]
abbrev mk_B (D : va_G) (cI cZ : ClassId) (A : Nat → Prop) (w : va_W) (t : State) : Prop := va_P D vwCl w t.heap ∧ va_K D vwCl (mk_tys cI cZ) t ∧ va_D A w
def mk_NW (U : State) : Prop := (∀ q ∈ mk_nF, va_Nw (.fieldLinkNest q.1 q.2.1 q.2.2.1 q.2.2.2.1 q.2.2.2.2.1 q.2.2.2.2.2) U) ∧ ∀ q ∈ mk_nM, va_Nw (.methodLinkNest q.1 q.2.1 q.2.2.1 q.2.2.2) U
theorem mk_NW.warm {s U : State} (hW : s.WarmedH U.vm) (h : mk_NW s) : mk_NW U := ⟨fun q hq => (h.1 q hq).warmF hW, fun q hq => (h.2 q hq).warmM hW⟩
theorem mk_NW.same {s U : State} (hv : s.vm = U.vm) (h : mk_NW s) : mk_NW U := ⟨fun q hq => (h.1 q hq).same rfl hv, fun q hq => (h.2 q hq).same rfl hv⟩
def mk_len : List Nat := [5, 6, 6, 6, 4, 4, 37]
def mk_byt : List (List Int32) := [[115, 104, 111, 114, 116], [114, 101, 102, 117, 115, 101], [97, 110, 115, 119, 101, 114], [112, 101, 114, 109, 105, 116], [110, 97, 109, 101], [102, 117, 110, 100], [115, 104, 111, 114, 116, 32, 114, 101, 102, 117, 115, 101, 32, 97, 110, 115, 119, 101, 114, 32, 112, 101, 114, 109, 105, 116, 32, 110, 97, 109, 101, 32, 102, 117, 110, 100, 32]]
def mk_lit : List (String × Nat × String × Nat) := [(RX3, 108, "short", 0), (RX3, 110, "refuse", 1), (RX3, 112, "answer", 2), (RX3, 114, "permit", 3), (RX3, 116, "name", 4), (RX3, 118, "fund", 5), (RX8, 188, "short refuse answer permit name fund ", 6)]
/-- the text constants and the JDK's statics that reading them asks for: cells outside A -/
def mk_Str (E : (Nat → Nat) × (Nat → Nat)) (A : Nat → Prop) (U : State) (H : Heap) : Prop := vk_S 7 mk_len mk_byt E.1 E.2 A U H ∧ va_Z "java/lang/String" "COMPACT_STRINGS" "Z" (.int 1) A U H ∧ va_Zq "jdk/internal/util/Preconditions" "SIOOBE_FORMATTER" "Ljava/util/function/BiFunction;" A U H ∧ ∀ q ∈ mk_lit, vk_R q.1 q.2.1 q.2.2.1 (E.1 q.2.2.2) U
theorem mk_Str.warm {E : (Nat → Nat) × (Nat → Nat)} {A : Nat → Prop} {s U : State} {H : Heap} (hW : s.WarmedH U.vm) (h : mk_Str E A s H) : mk_Str E A U H := ⟨h.1.moved hW.alike, h.2.1.moved hW.alike, h.2.2.1.moved hW.alike, fun q hq => (h.2.2.2 q hq).warm hW⟩
theorem mk_Str.same {E : (Nat → Nat) × (Nat → Nat)} {A : Nat → Prop} {s U : State} {H : Heap} (hv : U.vm = s.vm) (hvm : s.vm.Alike U.vm) (h : mk_Str E A s H) : mk_Str E A U H := ⟨h.1.moved hvm, h.2.1.moved hvm, h.2.2.1.moved hvm, fun q hq => (h.2.2.2 q hq).same hv⟩
theorem mk_Str.kept {E : (Nat → Nat) × (Nat → Nat)} {A : Nat → Prop} {s : State} {H H1 : Heap} (h : mk_Str E A s H) (hq : ∀ a : Nat, a < H.size → ¬ A a → H1[a]? = H[a]?) : mk_Str E A s H1 := ⟨h.1.kept hq, h.2.1.kept hq, h.2.2.1.kept hq, h.2.2.2⟩
theorem mk_Str.narrow {E : (Nat → Nat) × (Nat → Nat)} {A B : Nat → Prop} {s : State} {H : Heap} (h : mk_Str E A s H) (hAB : ∀ q, B q → A q) : mk_Str E B s H := ⟨h.1.narrow hAB, h.2.1.narrow hAB, h.2.2.1.narrow hAB, h.2.2.2⟩
def mk_Pc (D : va_G) (cI cZ : ClassId) (E : (Nat → Nat) × (Nat → Nat)) (sz : Nat) (As : List Value) (w : va_W) : Array Value → State → Prop := va_Pc As (fun U => U.heap.size = sz ∧ va_P D vwCl w U.heap ∧ va_K D vwCl (mk_tys cI cZ) U ∧ va_D (fun _ => True) w ∧ mk_NW U ∧ mk_Str E (va_A w sz) U U.heap)
def mk_Ci (l : Launch) (D : va_G) (cI cZ : ClassId) (E : (Nat → Nat) × (Nat → Nat)) (y : MethodName) (ws : List Cond) (rm : Room) (As : List Value) (w : va_W) {S : Type} (Wd : S → va_W) (post : Int32 → S → Prop) : Prop := ∀ sz : Nat, Met l y ws rm (mk_Pc D cI cZ E sz As w) (va_Qi post (fun u t => mk_B D cI cZ (va_A w sz) (Wd u) t) (va_A w sz)) 0 0 (va_A w sz)
def mk_Cv (l : Launch) (D : va_G) (cI cZ : ClassId) (E : (Nat → Nat) × (Nat → Nat)) (y : MethodName) (ws : List Cond) (rm : Room) (As : List Value) (w : va_W) {S : Type} (Wd : S → va_W) (post : S → Prop) : Prop := ∀ sz : Nat, Met l y ws rm (mk_Pc D cI cZ E sz As w) (va_Qv post (fun u t => mk_B D cI cZ (va_A w sz) (Wd u) t) (va_A w sz)) 0 0 (va_A w sz)
/-- a place for a callee's world within the caller's -/
def mk_Frame (f : va_W → va_W) : Prop := ∀ {D : va_G} {cl : List vw_C} {H : Heap} {A : Nat → Prop} {w : va_W}, va_P D cl (f w) H → va_D A (f w) → va_P D cl w H ∧ va_D A w ∧ ∀ {H1 : Heap} {w1 : va_W}, (∀ q : Nat, q < H.size → ¬ va_A w H.size q → H1[q]? = H[q]?) → (∀ q, va_A w H.size q → A q) → va_P D cl w1 H1 → va_D (va_A w H.size) w1 → va_P D cl (f w1) H1 ∧ va_D A (f w1)
theorem mk_P_app {D : va_G} {cl : List vw_C} {X Y : va_W} {H : Heap} (h : va_P D cl (X ++ Y) H) : va_P D cl X H ∧ va_P D cl Y H := by
  refine ⟨fun k q hk => ?_, fun k q hk => ?_⟩
  · have hl := (List.getElem?_eq_some_iff.mp hk).1
    exact h k q (by rw [List.getElem?_append_left hl]; exact hk)
  · exact h (X.length + k) q (by rw [List.getElem?_append_right (by omega), Nat.add_sub_cancel_left]; exact hk)
theorem mk_D_app {A : Nat → Prop} {X Y : va_W} (h : va_D A (X ++ Y)) : va_D A X ∧ va_D A Y ∧ ∀ (i j : Nat) (p q : Nat × va_E), X[i]? = some p → Y[j]? = some q → p.1 ≠ q.1 := by
  have hX : ∀ (k : Nat) (q : Nat × va_E), X[k]? = some q → k < X.length ∧ (X ++ Y)[k]? = some q := fun k q hk => by
    have hl := (List.getElem?_eq_some_iff.mp hk).1
    exact ⟨hl, by rw [List.getElem?_append_left hl]; exact hk⟩
  have hY : ∀ (k : Nat) (q : Nat × va_E), Y[k]? = some q → (X ++ Y)[X.length + k]? = some q := fun k q hk => by
    rw [List.getElem?_append_right (by omega), Nat.add_sub_cancel_left]; exact hk
  refine ⟨⟨fun i j p q hi hj e => h.1 i j p q (hX i p hi).2 (hX j q hj).2 e, fun k q hk => h.2 k q (hX k q hk).2⟩, ⟨fun i j p q hi hj e => ?_, fun k q hk => h.2 _ q (hY k q hk)⟩, fun i j p q hi hj e => ?_⟩
  · have := h.1 _ _ p q (hY i p hi) (hY j q hj) e
    omega
  · have := h.1 _ _ p q (hX i p hi).2 (hY j q hj) e
    have := (hX i p hi).1
    omega
theorem mk_kept {D : va_G} {cl : List vw_C} {X w : va_W} {H H1 : Heap} (hP : va_P D cl X H) (hap : ∀ (i j : Nat) (p q : Nat × va_E), X[i]? = some p → w[j]? = some q → p.1 ≠ q.1) (hk : ∀ q : Nat, q < H.size → ¬ va_A w H.size q → H1[q]? = H[q]?) : va_P D cl X H1 ∧ ∀ (i : Nat) (p : Nat × va_E), X[i]? = some p → ¬ va_A w H.size p.1 := by
  have key : ∀ (i : Nat) (p : Nat × va_E), X[i]? = some p → p.1 < H.size ∧ ¬ va_A w H.size p.1 := fun i p hi => by
    have hl := (hP i p hi).lt
    refine ⟨hl, fun h => ?_⟩
    rcases h with ⟨k, e, h⟩ | h
    · exact hap i k p (p.1, e) hi h rfl
    · omega
  exact ⟨hP.kept (fun k q hq => hk q.1 (key k q hq).1 (key k q hq).2), fun i p hi => (key i p hi).2⟩
theorem mk_fr_id : mk_Frame (fun v => v) := fun hP hD => ⟨hP, hD, fun _ hF hP1 hD1 => ⟨hP1, hD1.weaken (fun _ _ _ h => hF _ h)⟩⟩
theorem mk_fr_end (X : va_W) : mk_Frame (fun v => X ++ v) := fun {D cl H A w} hP hD => by
  obtain ⟨hX, hw⟩ := mk_P_app hP
  obtain ⟨dX, dw, ap⟩ := mk_D_app hD
  refine ⟨hw, dw, fun {H1 w1} hk hF hP1 hD1 => ?_⟩
  obtain ⟨k1, k2⟩ := mk_kept hX ap hk
  exact ⟨k1.app hP1, dX.app (hD1.weaken (fun _ _ _ h => hF _ h)) (fun i j p q hi hj e => k2 i p hi (by rw [e]; exact hD1.2 j q hj))⟩
theorem mk_fr_hd (Z : va_W) : mk_Frame (fun v => v ++ Z) := fun {D cl H A w} hP hD => by
  obtain ⟨hw, hZ⟩ := mk_P_app hP
  obtain ⟨dw, dZ, ap⟩ := mk_D_app hD
  refine ⟨hw, dw, fun {H1 w1} hk hF hP1 hD1 => ?_⟩
  obtain ⟨k1, k2⟩ := mk_kept hZ (fun i j p q hi hj e => ap j i q p hj hi e.symm) hk
  exact ⟨hP1.app k1, (hD1.weaken (fun _ _ _ h => hF _ h)).app dZ (fun i j p q hi hj e => k2 j q hj (by rw [← e]; exact hD1.2 i p hi))⟩
theorem mk_fr_mid (X Z : va_W) : mk_Frame (fun v => X ++ (v ++ Z)) := fun {D cl H A w} hP hD => by
  obtain ⟨hX, hwZ⟩ := mk_P_app hP
  obtain ⟨dX, dwZ, ap⟩ := mk_D_app hD
  obtain ⟨hw, dw, kk⟩ := mk_fr_hd Z hwZ dwZ
  refine ⟨hw, dw, fun {H1 w1} hk hF hP1 hD1 => ?_⟩
  obtain ⟨p1, d1⟩ := kk hk hF hP1 hD1
  have apw : ∀ (i j : Nat) (p q : Nat × va_E), X[i]? = some p → w[j]? = some q → p.1 ≠ q.1 := fun i j p q hi hj => ap i j p q hi (by rw [List.getElem?_append_left (List.getElem?_eq_some_iff.mp hj).1]; exact hj)
  obtain ⟨k1, k2⟩ := mk_kept hX apw hk
  refine ⟨k1.app p1, dX.app d1 (fun i j p q hi hj e => ?_)⟩
  by_cases hl : j < w1.length
  · rw [List.getElem?_append_left hl] at hj
    exact k2 i p hi (by rw [e]; exact hD1.2 j q hj)
  · rw [List.getElem?_append_right (by omega)] at hj
    exact ap i (w.length + (j - w1.length)) p q hi (by rw [List.getElem?_append_right (by omega), Nat.add_sub_cancel_left]; exact hj) e
theorem mk_blind {D : va_G} {cI cZ : ClassId} {E : (Nat → Nat) × (Nat → Nat)} {sz : Nat} {As : List Value} {w : va_W} : FrameBlind (mk_Pc D cI cZ E sz As w) := fun a U g mk q => by
  obtain ⟨q0, q1, qP, qK, qD, qN, qE⟩ := q
  exact ⟨q0, q1, qP, va_K.moved (u := U) (U := U.calling g mk a) (Vm.Alike.refl U.vm) qK, qD, qN.same rfl, qE.same (U := U.calling g mk a) rfl (Vm.Alike.refl U.vm)⟩
theorem mk_preS {s : State} {H : Heap} {D : va_G} {cI cZ : ClassId} {E : (Nat → Nat) × (Nat → Nat)} {As : List Value} {w : va_W} {f : va_W → va_W} {A : Nat → Prop} {locs : List Loc} (FR : mk_Frame f) (hK : va_K D vwCl (mk_tys cI cZ) s) (hN : mk_NW s) (hE : mk_Str E A s s.heap) (hS : va_S A s.heap H locs) (hA : ∀ q, s.heap.size ≤ q → A q) (hP : va_P D vwCl (f w) H) (hD : va_D A (f w)) : PreS s H (mk_Pc D cI cZ E H.size As w) As :=
  ⟨mk_blind, fun U hU hW => ⟨rfl, by rw [hU], by rw [hU]; exact (FR hP hD).1, va_K.moved hW.alike hK, (FR hP hD).2.1.weaken (fun _ _ _ _ => trivial), hN.warm hW, by
    rw [hU]
    refine ((hE.kept hS.2.1).narrow (B := va_A w H.size) (fun q h => ?_)).warm hW
    rcases h with ⟨k, e, h⟩ | h
    · exact (FR hP hD).2.1.2 k _ h
    · exact hA q (Nat.le_trans hS.1 h)⟩⟩
theorem mk_preV {s : State} {H : Heap} {D : va_G} {cI cZ : ClassId} {E : (Nat → Nat) × (Nat → Nat)} {As : List Value} {w : va_W} {f : va_W → va_W} {A : Nat → Prop} {locs : List Loc} {b ci : Nat} {fs : List Value} {q : vw_C} (FR : mk_Frame f) (hK : va_K D vwCl (mk_tys cI cZ) s) (hN : mk_NW s) (hE : mk_Str E A s s.heap) (hS : va_S A s.heap H locs) (hA : ∀ q, s.heap.size ≤ q → A q) (hP : va_P D vwCl (f w) H) (hD : va_D A (f w)) (hc : vwCl[ci]? = some q) (he : w[0]? = some (b, .inr (ci, fs))) : PreV s H q.1 b (mk_Pc D cI cZ E H.size (.ref b :: As) w) As :=
  ⟨mk_blind, va_recv hK (FR hP hD).1 hc he, (mk_preS (As := .ref b :: As) FR hK hN hE hS hA hP hD).2⟩
section MKC
variable {p : Program} {l : Launch} {e : Env} {R : Room} {s : State} {m : MethodId} {args : Array Value} {below : List Frame} {meth : Method} {c : Code} {H : Heap} {locs : List Loc} {cells slots : Nat} {Q : State → Prop}
variable {pc : Nat} {ls : Array Slot} {rest st0 : List Value} {a : Array Value} {A : Nat → Prop} {H0 : Heap} {D : va_G} {cI cZ : ClassId} {w : va_W} {f : va_W → va_W}
theorem mk_ci {S : Type} {post : Int32 → S → Prop} {Wd : S → va_W} (FR : mk_Frame f) (hr : va_Run p l e R s m args below meth c H locs cells slots 0 0 (F0 m pc ls st0) rest (va_Qi post (fun u t => mk_B D cI cZ (va_A w H.size) (Wd u) t) (va_A w H.size) a) (va_A w H.size)) (hP : va_P D vwCl (f w) H) (hD : va_D A (f w)) (hS : va_S A H0 H locs) (hA : ∀ q, H0.size ≤ q → A q)
    (kk : ∀ (r : Int32) (u : S) (H1 : Heap) (locs1 : List Loc), post r u → va_P D vwCl (f (Wd u)) H1 → va_D A (f (Wd u)) → va_S A H0 H1 locs1 → W p l e R s m args below meth c H1 locs1 cells slots Q (F0 m (pc + 3) ls (.int r :: rest))) : W p l e R s m args below meth c H locs cells slots Q (F0 m pc ls st0) := by
  obtain ⟨hw, dw, kf⟩ := FR hP hD
  have hF : ∀ q, va_A w H.size q → A q := fun q h => by
    rcases h with ⟨k, e, h⟩ | h
    · exact dw.2 k _ h
    · exact hA q (Nat.le_trans hS.1 h)
  refine va_calli hr hS (fun q _ h => hF q h) hF (fun r u t H1 locs1 ht hvm hw1 hB hz1 hk1 hS1 => ?_)
  obtain ⟨b1, b2, b3⟩ := hB
  rw [ht] at b1
  obtain ⟨p1, d1⟩ := kf hk1 hF b1 b3
  exact kk r u H1 locs1 hw1 p1 d1 hS1
theorem mk_cv {S : Type} {post : S → Prop} {Wd : S → va_W} (FR : mk_Frame f) (hr : va_Run p l e R s m args below meth c H locs cells slots 0 0 (F0 m pc ls st0) rest (va_Qv post (fun u t => mk_B D cI cZ (va_A w H.size) (Wd u) t) (va_A w H.size) a) (va_A w H.size)) (hP : va_P D vwCl (f w) H) (hD : va_D A (f w)) (hS : va_S A H0 H locs) (hA : ∀ q, H0.size ≤ q → A q)
    (kk : ∀ (u : S) (H1 : Heap) (locs1 : List Loc), post u → va_P D vwCl (f (Wd u)) H1 → va_D A (f (Wd u)) → va_S A H0 H1 locs1 → W p l e R s m args below meth c H1 locs1 cells slots Q (F0 m (pc + 3) ls rest)) : W p l e R s m args below meth c H locs cells slots Q (F0 m pc ls st0) := by
  obtain ⟨hw, dw, kf⟩ := FR hP hD
  have hF : ∀ q, va_A w H.size q → A q := fun q h => by
    rcases h with ⟨k, e, h⟩ | h
    · exact dw.2 k _ h
    · exact hA q (Nat.le_trans hS.1 h)
  refine va_callv hr hS (fun q _ h => hF q h) hF (fun u t H1 locs1 ht hvm hw1 hB hz1 hk1 hS1 => ?_)
  obtain ⟨b1, b2, b3⟩ := hB
  rw [ht] at b1
  obtain ⟨p1, d1⟩ := kf hk1 hF b1 b3
  exact kk u H1 locs1 hw1 p1 d1 hS1
end MKC
theorem mk_absQ {P : (State → Prop) → Prop} {Q0 : State → Prop} (k : ∀ Q, Q = Q0 → P Q) : P Q0 := k Q0 rfl
def mk_fill (n : Nat) (v : Int32) (f : Nat → Int32) : Nat → Int32 := fun j => if j < n then v else f j
def rm_fill : Room := { frames := 0, cells := 0, slots := 0, locals := 0 }
set_option maxHeartbeats 4000000 in
set_option maxRecDepth 100000 in
/-- Arrays.fill(int[], int) -/
theorem c_fill (l : Launch) (D : va_G) (cI cZ : ClassId) (E : (Nat → Nat) × (Nat → Nat)) (xa_h : Nat) (N : Nat) (xa : Nat → Int32) (x1 : Int32) (hN31 : N < 2 ^ 31) : mk_Cv l D cI cZ E yJ7_fill_53178 wsJ7_fill_53178 rm_fill ([.ref xa_h, .int x1] : List Value) ([(xa_h, .inl (cI, N, .inl xa))] : va_W) (fun (u : Nat → Int32) => ([(xa_h, .inl (cI, N, .inl u))] : va_W)) (fun (u : Nat → Int32) => u = mk_fill N x1 xa) := by
  intro sz
  refine Met.ofW (cc := cJ7_fill_53178) (maxL := 4) (ret := none) (by decide) rfl ?_
  intro p e s m args below meth c s₁ B hml hv
  obtain ⟨rfl, hsz, hP, hK, hD0, hN, hE⟩ := hv
  have hx := B.exec
  have hb := B.bytes
  have hr := B.returns
  have hts := atoms_spec (ws := wsJ7_fill_53178) B.pre
  have hown : s.vm.findClass RJ7 = some m.cls := findClass_of_methodNamed B.named
  have hlocks := B.notSynchronized
  subst hsz
  have hD := hD0.self (sz := s.heap.size)
  generalize hAe : va_A ([(xa_h, .inl (cI, N, .inl xa))] : va_W) s.heap.size = A at hD ⊢
  have hA : ∀ q : Nat, s.heap.size ≤ q → A q := fun q h => by rw [← hAe]; exact Or.inr h
  have hS : va_S A s.heap s.heap [] := va_S.rf
  have hl := lv_entry ([.ref xa_h, .int x1] : List Value) (n := 4) (Nat.le_of_ble_eq_true rfl)
  rw [lg_entry_eq]
  generalize (lg_sl ([.ref xa_h, .int x1] : List Value) ++ List.replicate (4 - (lg_sl ([.ref xa_h, .int x1] : List Value)).length) Slot.unset).toArray = ls at hl ⊢
  have hl : lv_has ls 4 [(0, .ref xa_h), (1, .int x1)] := hl
  refine mk_absQ (P := fun Q => W p l e _ s m _ below meth c s.heap [] 0 0 Q _) (fun Q hQ => ?_)
  have b5 : ∀ (n i : Nat) (g : Nat → Int32) (x2 : Int32), i + n = N → x2 = nI i → g = (fun j => if j < i then x1 else xa j) → ∀ (H : Heap) (locs : List Loc) (ls : Array Slot), va_P D vwCl ([(xa_h, .inl (cI, N, .inl g))] : va_W) H → va_D A ([(xa_h, .inl (cI, N, .inl g))] : va_W) → va_S A s.heap H locs → lv_has ls 4 [(0, .ref xa_h), (1, .int x1), (2, .int x2), (3, .int (nI N))] → W p l e (headSpec wsJ7_fill_53178 rm_fill).room s m ([.ref xa_h, .int x1] : List Value).toArray below meth c H locs 0 0 Q (F0 m 5 ls []) := by
    intro n
    induction n with
    | zero =>
      intro i g x2 hi hx2 hg H locs ls hP hD hS hl
      refine lv_iload_n hx hb dJ7_fill_53178_5 rfl (lv_at hl 2 rfl) ?_
      refine lv_iload_n hx hb dJ7_fill_53178_6 rfl (lv_at hl 3 rfl) ?_
      refine lv_icmp_ge (tgt := 20) hx hb dJ7_fill_53178_7 (by decide) (fun c_1 => ?_) (fun c_1 => ?_)
      · rw [hQ]
        exact W.vret hx hb hr (fun t ht hW => ⟨⟨g, rfl, by rw [hg]; funext j; simp only [mk_fill]; rw [show i = N by omega], by rw [ht]; exact hP, va_K.moved hW.alike hK, hD⟩, hS.F ht⟩) hS.2.2 dJ7_fill_53178_20
      · exact absurd (by rw [hx2]; exact nI_le (by omega) (by omega)) c_1
    | succ n ih =>
      intro i g x2 hi hx2 hg H locs ls hP hD hS hl
      refine lv_iload_n hx hb dJ7_fill_53178_5 rfl (lv_at hl 2 rfl) ?_
      refine lv_iload_n hx hb dJ7_fill_53178_6 rfl (lv_at hl 3 rfl) ?_
      refine lv_icmp_ge (tgt := 20) hx hb dJ7_fill_53178_7 (by decide) (fun c_1 => ?_) (fun c_1 => ?_)
      · exact absurd (by rw [hx2] at c_1; exact c_1) (nI_ge (by omega) (by omega))
      · refine lv_aload_n hx hb dJ7_fill_53178_10 rfl (lv_at hl 0 rfl) ?_
        refine lv_iload_n hx hb dJ7_fill_53178_11 rfl (lv_at hl 2 rfl) ?_
        refine lv_iload_n hx hb dJ7_fill_53178_12 rfl (lv_at hl 1 rfl) ?_
        have hin : vp_in x2 N := by rw [hx2]; exact vp_in_nI (by omega) (by omega)
        refine va_iast hx hb hK hP hD hS 0 0 rfl rfl hin dJ7_fill_53178_13 (fun H locs hP hD hS => ?_)
        obtain ⟨y1, e_y1⟩ : ∃ y : Int32, y = x2 + 1 := ⟨_, rfl⟩
        refine lv_iinc (v := y1) (lv' := [(2, .int y1), (0, .ref xa_h), (1, .int x1), (3, .int (nI N))]) hx hb dJ7_fill_53178_14 hl (k := 2) rfl (by rw [e_y1]; rfl) (by decide) rfl (fun ls hl => ?_)
        refine lv_goto (tgt := 5) hx hb dJ7_fill_53178_17 (by decide) ?_
        refine ih (i + 1) (upd g x2.toNatClampNeg x1) y1 (by omega) (by rw [e_y1, hx2]; exact nI_1 i) ?_ _ _ _ hP hD hS (lv_sub hl [1, 2, 0, 3] rfl)
        rw [hg, hx2, nI_clamp (by omega)]
        funext j
        simp only [upd]
        by_cases h1 : j = i
        · subst h1; simp
        · by_cases h2 : j < i
          · rw [if_neg h1, if_pos h2, if_pos (by omega)]
          · rw [if_neg h1, if_neg h2, if_neg (by omega)]
  refine lv_iconst (v := 0) hx hb dJ7_fill_53178_0 (by decide) ?_
  refine lv_istore_n (lv' := [(2, .int 0), (0, .ref xa_h), (1, .int x1)]) hx hb dJ7_fill_53178_1 rfl hl (by decide) rfl (fun ls hl => ?_)
  refine lv_aload_n hx hb dJ7_fill_53178_2 rfl (lv_at hl 1 rfl) ?_
  refine va_alen (v := nI N) hx hb hK hP 0 0 rfl (ty := .int) rfl rfl dJ7_fill_53178_3 ?_
  refine lv_istore_n (lv' := [(3, .int (nI N)), (2, .int 0), (0, .ref xa_h), (1, .int x1)]) hx hb dJ7_fill_53178_4 rfl hl (by decide) rfl (fun ls hl => ?_)
  exact b5 N 0 xa 0 (by omega) nI_0.symm (by funext j; simp) _ _ _ hP hD hS (lv_sub hl [2, 3, 1, 0] rfl)
