/-! the pairs that differ -/
def dif (N nb : Nat → Nat) (j : Nat) : Bool := decide (¬ (N j % 8 = 5 ↔ nb j % 8 = 5))
def DL (N nb : Nat → Nat) (m : Nat) : List Nat := (List.range m).filter (dif N nb)
theorem DL_succ_t {N nb : Nat → Nat} {m : Nat} (h : dif N nb m = true) : DL N nb (m + 1) = DL N nb m ++ [m] := by
  unfold DL
  rw [List.range_succ, List.filter_append, List.filter_cons_of_pos h, List.filter_nil]
theorem DL_succ_f {N nb : Nat → Nat} {m : Nat} (h : ¬ dif N nb m = true) : DL N nb (m + 1) = DL N nb m := by
  unfold DL
  rw [List.range_succ, List.filter_append, List.filter_cons_of_neg h, List.filter_nil, List.append_nil]
theorem DL_len {N nb : Nat → Nat} {m : Nat} : (DL N nb m).length ≤ m := by
  unfold DL
  have := List.length_filter_le (dif N nb) (List.range m)
  rw [List.length_range] at this
  exact this
theorem DL_more {N nb : Nat → Nat} {a : Nat} : ∀ k, ∃ t, DL N nb (a + k) = DL N nb a ++ t
  | 0 => ⟨[], by simp⟩
  | k + 1 => by
    obtain ⟨t, ht⟩ := DL_more (N := N) (nb := nb) (a := a) k
    by_cases c : dif N nb (a + k) = true
    · exact ⟨t ++ [a + k], by rw [show a + (k + 1) = a + k + 1 from rfl, DL_succ_t c, ht, List.append_assoc]⟩
    · exact ⟨t, by rw [show a + (k + 1) = a + k + 1 from rfl, DL_succ_f c, ht]⟩
theorem DL_at {N nb : Nat → Nat} {j m : Nat} (h : dif N nb j = true) (hj : j < m) : (DL N nb m)[(DL N nb j).length]? = some j := by
  obtain ⟨t, ht⟩ := DL_more (N := N) (nb := nb) (a := j + 1) (m - (j + 1))
  rw [show j + 1 + (m - (j + 1)) = m from by omega, DL_succ_t h] at ht
  rw [ht, List.append_assoc, List.getElem?_append_right (Nat.le_refl _), Nat.sub_self]
  rfl
theorem DL_mem {N nb : Nat → Nat} {j m : Nat} (h : j ∈ DL N nb m) : j < m ∧ dif N nb j = true := by
  unfold DL at h
  rw [List.mem_filter, List.mem_range] at h
  exact h
theorem DL_skip {N nb : Nat → Nat} {a : Nat} : ∀ k, (∀ j, a ≤ j → j < a + k → ¬ dif N nb j = true) → DL N nb (a + k) = DL N nb a
  | 0, _ => rfl
  | k + 1, h => by rw [show a + (k + 1) = a + k + 1 from rfl, DL_succ_f (h (a + k) (by omega) (by omega)), DL_skip k (fun j h1 h2 => h j h1 (by omega))]
theorem DL_congr {N N' nb : Nat → Nat} {m : Nat} (h : ∀ j, j < m → N' j = N j) : DL N' nb m = DL N nb m := by
  unfold DL
  refine List.filter_congr (fun j hj => ?_)
  rw [List.mem_range] at hj
  unfold dif
  rw [h j hj]
theorem sent_c {f : Nat → Int32} {N : Nat → Nat} {c w : Nat} {K : Int32 → Prop} (hf : ∀ j, j < 960 → f j = nI (N j)) (hN : ∀ j, N j < 160000) (hc : c < 60) (hw : w < 16) (h1 : N (16 * c + w) % 8 = 5 → K 1) (h0 : N (16 * c + w) % 8 ≠ 5 → K 0) : wp_X2_wasSent f (nI c) (nI w) K := by
  unfold wp_X2_wasSent
  refine noted_c hf hN hc hw ⟨fun q => h0 (fun z => q (by rw [z]; rfl)), fun q => h1 ?_⟩
  exact (nI_eq (b := 5) (by omega) (by omega)).mp q
theorem isDiff_c {f g : Nat → Int32} {N nb : Nat → Nat} {j : Nat} {K : Int32 → Prop} (hf : ∀ j, j < 960 → f j = nI (N j)) (hN : ∀ j, N j < 160000) (hg : ∀ j, j < 960 → g j = nI (nb j)) (hnb : ∀ j, nb j < 160000) (hj : j < 960) (h1 : dif N nb j = true → K 1) (h0 : ¬ dif N nb j = true → K 0) : wp_X7_isDifference f g (nI j) K := by
  unfold wp_X7_isDifference
  have e1 : nI j / 16 = nI (j / 16) := by rw [show (16 : Int32) = nI 16 from rfl, pk_div (by omega) (by omega) (by omega)]
  have e2 : nI j - nI j / 16 * 16 = nI (j % 16) := by rw [show (16 : Int32) = nI 16 from rfl, pk_rem (by omega) (by omega) (by omega)]
  rintro _ rfl _ rfl
  rw [e1, show nI j - nI (j / 16) * 16 = nI (j % 16) from by rw [← e1]; exact e2]
  have e3 : 16 * (j / 16) + j % 16 = j := by omega
  refine sent_c hf hN (by omega) (by omega) (fun a => ?_) (fun a => ?_)
  · refine sent_c hg hnb (by omega) (by omega) (fun b => ?_) (fun b => ?_)
    · rw [e3] at a b
      exact ⟨fun _ => h0 (by unfold dif; simp [a, b]), fun q => absurd rfl q⟩
    · rw [e3] at a b
      exact ⟨fun q => absurd q one0, fun _ => h1 (by unfold dif; simp [a, b])⟩
  · refine sent_c hg hnb (by omega) (by omega) (fun b => ?_) (fun b => ?_)
    · rw [e3] at a b
      exact ⟨fun q => absurd q.symm one0, fun _ => h1 (by unfold dif; simp [a, b])⟩
    · rw [e3] at a b
      exact ⟨fun _ => h0 (by unfold dif; simp [a, b]), fun q => absurd rfl q⟩
theorem count_c {f g : Nat → Int32} {N nb : Nat → Nat} {kb : Nat} {K : Int32 → Prop} (hf : ∀ j, j < 960 → f j = nI (N j)) (hN : ∀ j, N j < 160000) (hg : ∀ j, j < 960 → g j = nI (nb j)) (hnb : ∀ j, nb j < 160000) (hkb : kb ≤ 60) (hK : K (nI (DL N nb (16 * kb)).length)) : wp_X7_countDifferences f g (nI kb) K := by
  unfold wp_X7_countDifferences
  rw [show nI kb * 16 = nI (16 * kb) from by rw [show (16 : Int32) = nI 16 from rfl, pk_mul, Nat.mul_comm]]
  rintro _ rfl
  have loop : ∀ m j, j + m = 16 * kb → wp_X7_countDifferences_b15 K f g (m + 1) (nI (DL N nb j).length) (nI (16 * kb)) (nI j) := by
    intro m
    induction m with
    | zero =>
      intro j hj
      rw [wp_X7_countDifferences_b15]
      refine pk_le (16 * kb) j (fun _ => ?_) (fun q => by omega)
      rw [show j = 16 * kb from by omega]; exact hK
    | succ m ih =>
      intro j hj
      rw [wp_X7_countDifferences_b15]
      refine pk_le (16 * kb) j (fun q => by omega) (fun _ => isDiff_c hf hN hg hnb (by omega) (fun c => ⟨fun q => absurd q one0, fun _ => ?_⟩) (fun c => ⟨fun _ => ?_, fun q => absurd rfl q⟩))
      · rintro _ rfl _ rfl
        have := ih (j + 1) (by omega)
        rw [DL_succ_t c, List.length_append, List.length_singleton] at this
        rw [nI_1, nI_1]; exact this
      · rintro _ rfl
        have := ih (j + 1) (by omega)
        rw [DL_succ_f c] at this
        rw [nI_1]; exact this
  exact ⟨16 * kb + 1, loop (16 * kb) 0 (by omega)⟩
theorem find_c {f g : Nat → Int32} {N nb : Nat → Nat} {kb k : Nat} {K : Int32 → Prop} (hf : ∀ j, j < 960 → f j = nI (N j)) (hN : ∀ j, N j < 160000) (hg : ∀ j, j < 960 → g j = nI (nb j)) (hnb : ∀ j, nb j < 160000) (hkb : kb ≤ 60) (hk : k < 2147483648) (hK : K (oi (DL N nb (16 * kb))[k]?)) : wp_X7_findDifference f g (nI kb) (nI k) K := by
  unfold wp_X7_findDifference
  rw [show nI kb * 16 = nI (16 * kb) from by rw [show (16 : Int32) = nI 16 from rfl, pk_mul, Nat.mul_comm]]
  rintro _ rfl
  have loop : ∀ m j, j + m = 16 * kb → (DL N nb j).length ≤ k → wp_X7_findDifference_b16 K f g (m + 1) (nI (k - (DL N nb j).length)) (nI (16 * kb)) (nI j) := by
    intro m
    induction m with
    | zero =>
      intro j hj hl
      rw [wp_X7_findDifference_b16]
      refine pk_le (16 * kb) j (fun _ => ?_) (fun q => by omega)
      rw [show j = 16 * kb from by omega] at hl
      rw [List.getElem?_eq_none hl] at hK; exact hK
    | succ m ih =>
      intro j hj hl
      rw [wp_X7_findDifference_b16]
      refine pk_le (16 * kb) j (fun q => by omega) (fun _ => isDiff_c hf hN hg hnb (by omega) (fun c => ⟨fun q => absurd q one0, fun _ => ?_⟩) (fun c => ⟨fun _ => ?_, fun q => absurd rfl q⟩))
      · by_cases z : k = (DL N nb j).length
        · refine ⟨fun q => absurd (by rw [z, Nat.sub_self]; rfl) q, fun _ => ?_⟩
          have := DL_at (m := 16 * kb) c (by omega)
          rw [← z] at this
          rw [this] at hK; exact hK
        · refine ⟨fun _ => ?_, fun q => ?_⟩
          · rintro _ rfl _ rfl
            have := ih (j + 1) (by omega) (by rw [DL_succ_t c, List.length_append, List.length_singleton]; omega)
            rw [DL_succ_t c, List.length_append, List.length_singleton] at this
            have e : nI (k - (DL N nb j).length) + -1 = nI (k - ((DL N nb j).length + 1)) := by
              obtain ⟨y, hy⟩ : ∃ y, k - (DL N nb j).length = y + 1 := ⟨k - (DL N nb j).length - 1, by omega⟩
              rw [hy, pk_m1]; congr 1; omega
            rw [nI_1, e]; exact this
          · have := (nI_eq (b := 0) (by omega) (by omega)).mp q
            omega
      · rintro _ rfl
        have := ih (j + 1) (by omega) (by rw [DL_succ_f c]; exact hl)
        rw [DL_succ_f c] at this
        rw [nI_1]; exact this
  exact ⟨16 * kb + 1, loop (16 * kb) 0 (by omega) (by show 0 ≤ k; omega)⟩
theorem RwL_get {f : Nat → Int32} : ∀ {l : List Nat} {o k v : Nat}, RwL f o l → l[k]? = some v → f (o + k) = nI v
  | [], o, k, v, _, h => by cases h
  | x :: l, o, 0, v, hl, h => by
    rw [List.getElem?_cons_zero] at h
    cases h
    exact hl.1
  | x :: l, o, k + 1, v, hl, h => by
    rw [List.getElem?_cons_succ] at h
    have := RwL_get hl.2 h
    rw [show o + (k + 1) = o + 1 + k from by omega]
    exact this
def RD (nb : Nat → Nat) (g : List Nat) (dc dw ds : Nat → Int32) : Prop := RwL dc 0 (g.map (fun q => q / 16)) ∧ RwL dw 0 (g.map (fun q => q % 16)) ∧ RwL ds 0 (g.map (fun q => if nb q % 8 = 5 then 1 else 0))
theorem RD_app {nb : Nat → Nat} {g : List Nat} {dc dw ds : Nat → Int32} {q : Nat} (h : RD nb g dc dw ds) : RD nb (g ++ [q]) (upd dc g.length (nI (q / 16))) (upd dw g.length (nI (q % 16))) (upd ds g.length (nI (if nb q % 8 = 5 then 1 else 0))) := by
  have ap1 : ∀ (f : Nat → Nat) (a : Nat → Int32), RwL a 0 (g.map f) → RwL (upd a g.length (nI (f q))) 0 ((g ++ [q]).map f) := by
    intro f a ha
    rw [List.map_append, RwL_app]
    refine ⟨RwL_upd (Or.inr (by rw [List.length_map]; omega)) ha, ?_, trivial⟩
    rw [List.length_map, Nat.zero_add]; exact pk_us
  exact ⟨ap1 _ _ h.1, ap1 _ _ h.2.1, ap1 (fun q => if nb q % 8 = 5 then 1 else 0) _ h.2.2⟩
def R_bes (n kb : Nat) (N nb : Nat → Nat) (be_notes : Nat → Int32) (be_callsDone : Int32) (dc dw ds : Nat → Int32) (dm : Int32) : Prop :=
  kb ≤ n ∧ n ≤ 60 ∧ be_callsDone = nI kb ∧ (∀ j, j < 960 → be_notes j = nI (nb j)) ∧ (∀ j, nb j < 160000) ∧ dm = nI (DL N nb (16 * kb)).length ∧ RD nb (DL N nb (16 * kb)) dc dw ds
theorem p_differs {n kb : Nat} {N nb : Nat → Nat} {fl_notes be_notes mm_differCall mm_differWorker mm_differSent : Nat → Int32} {be_callsDone mm_differMany mm_thrown x1 x2 : Int32} {P : Int32 → Prop}
    (hR : R_bes n kb N nb be_notes be_callsDone mm_differCall mm_differWorker mm_differSent mm_differMany) (hf : ∀ j, j < 960 → fl_notes j = nI (N j)) (hN : ∀ j, N j < 160000) (h0 : P 0) :
    wp_X7_differs fl_notes be_notes be_callsDone x1 x2 (fun r => wp_X8_differs mm_thrown mm_differCall mm_differWorker mm_differSent mm_differMany x1 x2 (fun q t => r = q ∧ P t)) := by
  obtain ⟨h1, h2, rfl, h4, h5, rfl, h7⟩ := hR
  have hlen : (DL N nb (16 * kb)).length ≤ 960 := by have := DL_len (N := N) (nb := nb) (m := 16 * kb); omega
  unfold wp_X7_differs
  by_cases a : x1 < 0
  · refine ⟨fun q => ?_, fun _ => ?_⟩
    · exfalso
      rw [i_lt] at a; rw [i_le] at q; omega
    · unfold wp_X7_differs_b13 wp_X8_differs
      exact ⟨fun q => absurd rfl q, fun _ => br_t a ⟨rfl, h0⟩⟩
  · have hx : ∃ k, k < 2147483648 ∧ x1 = nI k := by
      have t0 : 0 ≤ x1.toInt := by
        rw [i_lt] at a
        rw [show (0 : Int32).toInt = 0 from by decide] at a
        omega
      have t1 : x1.toInt < 2147483648 := Int32.toInt_lt x1
      refine ⟨x1.toInt.toNat, by omega, ?_⟩
      rw [i_eq, i_lit (by omega)]
      omega
    obtain ⟨k, hk, rfl⟩ := hx
    refine ⟨fun _ => find_c hf hN h4 h5 (by omega) hk ?_, fun q => ?_⟩
    · cases e : (DL N nb (16 * kb))[k]? with
      | none =>
        have hl := List.getElem?_eq_none_iff.mp e
        unfold wp_X7_differs_b13 wp_X8_differs
        refine ⟨fun q => absurd rfl q, fun _ => br_f a (br_f (nI_nlt hl (by omega)) ⟨rfl, h0⟩)⟩
      | some q =>
        have hl : k < (DL N nb (16 * kb)).length := by
          obtain ⟨h, -⟩ := List.getElem?_eq_some_iff.mp e
          exact h
        have hq := DL_mem (List.mem_of_getElem? e)
        have g1 : mm_differCall k = nI (q / 16) := by
          have := RwL_get (k := k) (v := q / 16) h7.1 (by rw [List.getElem?_map, e]; rfl)
          rw [Nat.zero_add] at this; exact this
        have g2 : mm_differWorker k = nI (q % 16) := by
          have := RwL_get (k := k) (v := q % 16) h7.2.1 (by rw [List.getElem?_map, e]; rfl)
          rw [Nat.zero_add] at this; exact this
        have g3 : mm_differSent k = nI (if nb q % 8 = 5 then 1 else 0) := by
          have := RwL_get (k := k) (v := if nb q % 8 = 5 then 1 else 0) h7.2.2 (by rw [List.getElem?_map, e]; rfl)
          rw [Nat.zero_add] at this; exact this
        have e1 : nI q / 16 = nI (q / 16) := by rw [show (16 : Int32) = nI 16 from rfl, pk_div (by omega) (by omega) (by omega)]
        have e2 : nI q - nI (q / 16) * 16 = nI (q % 16) := by rw [← e1, show (16 : Int32) = nI 16 from rfl, pk_rem (by omega) (by omega) (by omega)]
        have v := vp_in_nI (N := 960) (show k < 960 by omega) (by omega)
        have ref : ∀ r : Int32, (¬ x2 = 0 → ((¬ x2 = 1 → ((¬ x2 = 2 → r = -1) ∧ (x2 = 2 → r = nI (if nb q % 8 = 5 then 1 else 0)))) ∧ (x2 = 1 → r = nI (q % 16)))) ∧ (x2 = 0 → r = nI (q / 16)) → wp_X8_differs mm_thrown mm_differCall mm_differWorker mm_differSent (nI (DL N nb (16 * kb)).length) (nI k) x2 (fun q t => r = q ∧ P t) := by
          intro r hr
          unfold wp_X8_differs
          refine br_f a (br_t (nI_lt hl (by omega)) ?_)
          rw [nI_clamp (by omega), g1, g2, g3]
          exact ⟨fun z0 => ⟨fun z1 => ⟨fun z2 => ⟨((hr.1 z0).1 z1).1 z2, h0⟩, fun z2 => ⟨v, ((hr.1 z0).1 z1).2 z2, h0⟩⟩, fun z1 => ⟨v, (hr.1 z0).2 z1, h0⟩⟩, fun z0 => ⟨v, hr.2 z0, h0⟩⟩
        unfold wp_X7_differs_b13
        refine ⟨fun _ => ?_, fun z => absurd z (ne_m1 (v := q) (by omega))⟩
        rintro _ rfl _ rfl
        rw [show oi (some q) = nI q from rfl, e1, e2]
        refine ⟨fun z0 => ref _ ⟨fun z => absurd z0 z, fun _ => rfl⟩, fun z0 => ⟨fun z1 => ref _ ⟨fun _ => ⟨fun z => absurd z1 z, fun _ => rfl⟩, fun z => absurd z z0⟩, fun z1 => ⟨fun z2 => ?_, fun z2 => ref _ ⟨fun _ => ⟨fun _ => ⟨fun _ => rfl, fun z => absurd z z2⟩, fun z => absurd z z1⟩, fun z => absurd z z0⟩⟩⟩⟩
        refine sent_c h4 h5 (by omega) (by omega) (fun b => ?_) (fun b => ?_)
        · rw [show 16 * (q / 16) + q % 16 = q from by omega] at b
          rw [if_pos b] at ref
          exact ⟨fun z => absurd z one0, fun _ => ref _ ⟨fun _ => ⟨fun _ => ⟨fun z => absurd z2 z, fun _ => rfl⟩, fun z => absurd z z1⟩, fun z => absurd z z0⟩⟩
        · rw [show 16 * (q / 16) + q % 16 = q from by omega] at b
          rw [if_neg b] at ref
          exact ⟨fun _ => ref _ ⟨fun _ => ⟨fun _ => ⟨fun z => absurd z2 z, fun _ => rfl⟩, fun z => absurd z z1⟩, fun z => absurd z z0⟩, fun z => absurd rfl z⟩
    · exfalso
      apply q
      rw [i_le, i_lit hk, show (0 : Int32).toInt = 0 from by decide]
      omega
