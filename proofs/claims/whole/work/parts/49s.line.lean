/-! the line that is asked -/
def rowsR (bk : Nat → Nat) (Q : List Nat) : Nat → Nat → List Nat
  | 0, _ => []
  | m + 1, b => QB bk Q b ++ rowsR bk Q m (b + 1)
theorem QB_congr {bk bk' : Nat → Nat} {Q : List Nat} {b : Nat} (h : ∀ w, w ∈ Q → bk' w = bk w) : QB bk' Q b = QB bk Q b := by
  unfold QB
  exact List.filter_congr (fun x hx => by rw [h x hx])
theorem rowsR_congr {bk bk' : Nat → Nat} {Q : List Nat} (h : ∀ w, w ∈ Q → bk' w = bk w) : ∀ m b, rowsR bk' Q m b = rowsR bk Q m b
  | 0, _ => rfl
  | m + 1, b => by rw [rowsR, rowsR, QB_congr h, rowsR_congr h m (b + 1)]
theorem mostS_23 {e : EV} : mostS e = 2 ∨ mostS e = 3 := by unfold mostS; split <;> omega
theorem rowsS_R {e : EV} {Q : List Nat} : rowsS e Q = rowsR (eBk e) Q (mostS e) 0 := by
  unfold rowsS
  rcases mostS_23 (e := e) with h | h
  · rw [h, if_neg (by omega)]; rfl
  · rw [h, if_pos rfl]
    show _ = QB (eBk e) Q 0 ++ (QB (eBk e) Q 1 ++ (QB (eBk e) Q 2 ++ []))
    rw [List.append_nil]
theorem rowsR_ok {bk : Nat → Nat} {Q : List Nat} (hd : Q.Nodup) : ∀ m b, (rowsR bk Q m b).Nodup ∧ ∀ x, x ∈ rowsR bk Q m b ↔ x ∈ Q ∧ b ≤ bk x ∧ bk x < b + m
  | 0, b => ⟨List.nodup_nil, fun x => ⟨fun q => absurd q List.not_mem_nil, fun q => by omega⟩⟩
  | m + 1, b => by
    have ih := rowsR_ok (bk := bk) hd m (b + 1)
    rw [rowsR]
    refine ⟨?_, fun x => ?_⟩
    · rw [List.nodup_append]
      refine ⟨QB_nodup hd, ih.1, fun x hx y hy q => ?_⟩
      have a := (QB_mem.mp hx).2
      have c := ((ih.2 y).mp hy).2.1
      rw [← q] at c; omega
    · rw [List.mem_append, QB_mem, ih.2]
      constructor
      · rintro (q | q)
        · exact ⟨q.1, by omega, by omega⟩
        · exact ⟨q.1, by omega, by omega⟩
      · intro q
        by_cases c : bk x = b
        · exact Or.inl ⟨q.1, c⟩
        · exact Or.inr ⟨q.1, by omega, by omega⟩
theorem lineQ_ok {P : Nat → Prop} {e : EV} {c : Nat} {Q : List Nat} (hd : Q.Nodup) (hQ : ∀ w, w ∈ Q ↔ P w) (hf : firstS e c ≠ 1000 → P (firstS e c)) : (lineQ e c Q).Nodup ∧ ∀ x, x ∈ lineQ e c Q → P x := by
  have r := rowsR_ok (bk := eBk e) hd (mostS e) 0
  unfold lineQ
  rw [rowsS_R]
  have hh : (headS e c).Nodup ∧ (∀ x, x ∈ headS e c → x = firstS e c ∧ P x) := by
    unfold headS
    split
    · rename_i q
      exact ⟨by simp, fun x hx => by rw [List.mem_singleton] at hx; exact ⟨hx, by rw [hx]; exact hf q.1⟩⟩
    · exact ⟨List.nodup_nil, fun x hx => by cases hx⟩
  refine ⟨?_, fun x hx => ?_⟩
  · rw [List.nodup_append]
    refine ⟨hh.1, List.Pairwise.filter _ r.1, fun x hx y hy q => ?_⟩
    rw [List.mem_filter, decide_eq_true_eq] at hy
    exact hy.2 (by rw [← q]; exact (hh.2 x hx).1)
  · rw [List.mem_append, List.mem_filter] at hx
    rcases hx with q | q
    · exact (hh.2 x q).2
    · exact (hQ x).mp ((r.2 x).mp q.1).1
theorem join_c {g : List Nat} {x : Nat} {line : Nat → Int32} {K : (Nat → Int32) → Int32 → Prop} (hl : g.length < 16) (hg : RwL line 0 g) (hK : ∀ line', RwL line' 0 (g ++ [x]) → K line' (nI (g ++ [x]).length)) : wp_X2_joinLine line (nI g.length) (nI x) K := by
  unfold wp_X2_joinLine
  refine pk_le 16 g.length (fun q => by omega) (fun _ => ⟨vp_in_nI hl (by omega), ?_⟩)
  rintro _ rfl
  rw [nI_1, nI_clamp (by omega)]
  have := hK (upd line g.length (nI x)) (by
    rw [RwL_app]
    refine ⟨RwL_upd (Or.inr (by omega)) hg, ?_, trivial⟩
    rw [Nat.zero_add]; exact pk_us)
  simpa using this
theorem sv_eq {x fi : Nat} (hx : x < 16) (hf : fi = 1000 ∨ fi < 16) : nI x = sv fi ↔ x = fi := by
  rcases hf with h | h
  · rw [h, sv_1000]
    exact ⟨fun q => absurd q (ne_m1 (by omega)), fun q => by omega⟩
  · rw [sv_ne (by omega)]
    exact nI_eqI (by omega) (by omega)
theorem line80_c {b fi mo : Nat} {lists lsz : Nat → Int32} {K : (Nat → Int32) → Int32 → Prop} {k71 : (Nat → Int32) → Int32 → Int32 → Int32 → Int32 → Prop} {l : List Nat} (hb : b < 3) (hl : l.length ≤ 16) (hz : lsz b = nI l.length) (hx : ∀ x, x ∈ l → x < 16) (hf : fi = 1000 ∨ fi < 16) (hR : RwL lists (16 * b) l) :
    ∀ (suf pre g : List Nat) (line : Nat → Int32), l = pre ++ suf → RwL line 0 g → g.length + (suf.filter (fun x => decide (x ≠ fi))).length ≤ 16 →
    (∀ line', RwL line' 0 (g ++ suf.filter (fun x => decide (x ≠ fi))) → k71 line' (nI (g ++ suf.filter (fun x => decide (x ≠ fi))).length) (sv fi) (nI mo) (nI (b + 1))) →
    wp_X2_lineUp_b80 K k71 lists lsz (suf.length + 1) line (nI g.length) (sv fi) (nI mo) (nI b) (nI pre.length) := by
  have ix : ∀ j, nI b * 16 + nI j = nI (16 * b + j) := fun j => by rw [show (16 : Int32) = nI 16 from rfl, pk_mul, nI_add, Nat.mul_comm]
  intro suf
  induction suf with
  | nil =>
    intro pre g line hl2 hg hlen hK
    rw [List.append_nil] at hl2
    rw [wp_X2_lineUp_b80]
    refine ⟨vp_in_nI hb (by omega), ?_⟩
    have hln : l.length = pre.length := by rw [hl2]
    rw [nI_clamp (n := b) (by omega), hz, hl2]
    refine pk_le pre.length pre.length (fun _ => ?_) (fun q => by omega)
    rintro _ rfl
    rw [nI_1]
    have := hK line (by rw [List.filter_nil, List.append_nil]; exact hg)
    rw [List.filter_nil, List.append_nil] at this
    exact this
  | cons x suf ih =>
    intro pre g line hl2 hg hlen hK
    have hln : l.length = pre.length + suf.length + 1 := by rw [hl2]; simp; omega
    rw [wp_X2_lineUp_b80]
    refine ⟨vp_in_nI hb (by omega), ?_⟩
    rw [nI_clamp (n := b) (by omega), hz]
    refine pk_le l.length pre.length (fun q => by omega) (fun _ => ?_)
    rw [ix]
    refine ⟨vp_in_nI (by omega) (by omega), ?_⟩
    have hxx : lists (16 * b + pre.length) = nI x := by
      rw [hl2, RwL_app] at hR
      exact hR.2.1
    have hx0 := hx x (by rw [hl2]; simp)
    rintro _ rfl
    rw [nI_clamp (n := 16 * b + pre.length) (by omega), hxx]
    have e2 : pre.length + 1 = (pre ++ [x]).length := by simp
    have e3 : l = pre ++ [x] ++ suf := by rw [hl2]; simp
    refine ⟨fun q => ?_, fun q => ?_⟩
    · have c := (sv_eq hx0 hf).mp q
      rw [List.filter_cons_of_neg (by simp [c])] at hK hlen
      rintro _ rfl
      rw [nI_1, e2]
      exact ih (pre ++ [x]) g line e3 hg hlen hK
    · have c : x ≠ fi := fun w => q ((sv_eq hx0 hf).mpr w)
      rw [List.filter_cons_of_pos (by simp [c])] at hK hlen
      rw [List.length_cons] at hlen
      refine join_c (by omega) hg (fun line' h' => ?_)
      rintro _ rfl
      rw [nI_1, e2]
      have e4 : g ++ x :: suf.filter (fun x => decide (x ≠ fi)) = g ++ [x] ++ suf.filter (fun x => decide (x ≠ fi)) := by simp
      rw [e4] at hK
      exact ih (pre ++ [x]) (g ++ [x]) line' e3 h' (by rw [List.length_append, List.length_singleton]; omega) hK
theorem line71_c {bk : Nat → Nat} {Q : List Nat} {fi mo : Nat} {lists lsz : Nat → Int32} {K : (Nat → Int32) → Int32 → Prop} (hR : R_rows bk Q lists lsz) (hd : Q.Nodup) (hx : ∀ x, x ∈ Q → x < 16) (hf : fi = 1000 ∨ fi < 16) (hmo : mo ≤ 3) :
    ∀ (m b : Nat) (g : List Nat) (line : Nat → Int32), b + m = mo → RwL line 0 g → g.length + ((rowsR bk Q m b).filter (fun x => decide (x ≠ fi))).length ≤ 16 →
    (∀ line', RwL line' 0 (g ++ (rowsR bk Q m b).filter (fun x => decide (x ≠ fi))) → K line' (nI (g ++ (rowsR bk Q m b).filter (fun x => decide (x ≠ fi))).length)) →
    wp_X2_lineUp_b71 K lists lsz (m + 1) line (nI g.length) (sv fi) (nI mo) (nI b) := by
  intro m
  induction m with
  | zero =>
    intro b g line hb hg hlen hK
    rw [wp_X2_lineUp_b71]
    refine pk_le mo b (fun _ => ?_) (fun q => by omega)
    have := hK line (by rw [rowsR, List.filter_nil, List.append_nil]; exact hg)
    rw [rowsR, List.filter_nil, List.append_nil] at this
    exact this
  | succ m ih =>
    intro b g line hb hg hlen hK
    rw [wp_X2_lineUp_b71]
    refine pk_le mo b (fun q => by omega) (fun _ => ⟨(QB bk Q b).length + 1, ?_⟩)
    have hB := hR b (by omega)
    rw [rowsR, List.filter_append] at hlen hK
    rw [List.length_append] at hlen
    have := line80_c (b := b) (fi := fi) (mo := mo) (K := K) (k71 := fun a n x y z => wp_X2_lineUp_b71 K lists lsz (m + 1) a n x y z) (by omega) (nodup_len (QB_nodup hd) (fun x hx' => hx x (QB_mem.mp hx').1)) hB.1 (fun x hx' => hx x (QB_mem.mp hx').1) hf hB.2 (QB bk Q b) [] g line rfl hg (by omega) (fun line' h' => ?_)
    · exact this
    · refine ih (b + 1) _ line' (by omega) h' (by rw [List.length_append]; omega) ?_
      rw [List.append_assoc]
      exact hK
theorem lineUp_c {P : Nat → Prop} {bk : Nat → Nat} {e : EV} {c : Nat} {Q : List Nat} {lists lsz laws line cb cnm : Nat → Int32} {n0 : Int32} {K : (Nat → Int32) → Int32 → Prop} (hc : c < 60) (hd : Q.Nodup) (hQ : ∀ w, w ∈ Q ↔ P w) (hP : ∀ w, P w → w < 16 ∧ cb w = nI (bk w) ∧ bk w < 3 ∧ eBk e w = bk w)
    (hlw : ∀ j, j < 5 → laws j = nI (eLw e j)) (hl9 : ∀ j, j < 5 → eLw e j ≤ 999) (hn : cnm c = sv (eCf e c 2)) (hn2 : eCf e c 2 = 1000 ∨ P (eCf e c 2)) (hR : R_rows bk Q lists lsz)
    (hK : ∀ line', RwL line' 0 (lineQ e c Q) → (lineQ e c Q).length ≤ 16 → K line' (nI (lineQ e c Q).length)) : wp_X2_lineUp lists lsz laws line n0 cb cnm (nI c) K := by
  have hf : firstS e c = 1000 ∨ P (firstS e c) := by
    unfold firstS
    split
    · exact hn2
    · exact Or.inl rfl
  have hf16 : firstS e c = 1000 ∨ firstS e c < 16 := hf.imp id (fun q => (hP _ q).1)
  have lq := lineQ_ok (e := e) (c := c) hd hQ (fun q => hf.resolve_left q)
  have hlen : (lineQ e c Q).length ≤ 16 := nodup_len lq.1 (fun x hx => (hP x (lq.2 x hx)).1)
  have m23 := mostS_23 (e := e)
  have body : wp_X2_lineUp_b44 K lists lsz line cb 0 (sv (firstS e c)) (nI (mostS e)) := by
    have go : ∀ (g : List Nat) (line1 : Nat → Int32), RwL line1 0 g → g = headS e c → wp_X2_lineUp_b71 K lists lsz (mostS e + 1) line1 (nI g.length) (sv (firstS e c)) (nI (mostS e)) 0 := by
      intro g line1 hg he
      have rc : rowsR bk Q (mostS e) 0 = rowsS e Q := by rw [rowsS_R, rowsR_congr (fun w hw => (hP w ((hQ w).mp hw)).2.2.2)]
      have : g ++ (rowsR bk Q (mostS e) 0).filter (fun x => decide (x ≠ firstS e c)) = lineQ e c Q := by rw [rc, he]; rfl
      refine line71_c hR hd (fun x hx => (hP x ((hQ x).mp hx)).1) hf16 (by omega) (mostS e) 0 g line1 (by omega) hg ?_ ?_
      · rw [← List.length_append, this]; exact hlen
      · rw [this]; exact fun l' h' => hK l' h' hlen
    unfold wp_X2_lineUp_b44
    by_cases c1 : firstS e c = 1000
    · have he : ([] : List Nat) = headS e c := by unfold headS; rw [if_neg (fun q => q.1 c1)]
      refine br_t (by rw [c1]; rfl) ⟨_, go [] line trivial he⟩
    · have pf := hP _ (hf.resolve_left c1)
      have f16 : firstS e c < 16 := pf.1
      have sf : sv (firstS e c) = nI (firstS e c) := sv_ne c1
      refine br_f (by rw [sf]; exact ne_m1 (by omega)) ?_
      rw [sf, ← sf]
      refine ⟨by rw [sf]; exact vp_in_nI f16 (by omega), ?_⟩
      have e1 : cb (sv (firstS e c)).toNatClampNeg = nI (bk (firstS e c)) := by rw [sf, nI_clamp (by omega)]; exact pf.2.1
      rw [e1]
      refine pk_le (mostS e) (bk (firstS e c)) (fun q => ?_) (fun q => ?_)
      · have he : ([] : List Nat) = headS e c := by unfold headS; rw [if_neg (fun z => by have := z.2; rw [pf.2.2.2] at this; omega)]
        exact ⟨_, go [] line trivial he⟩
      · have he : [firstS e c] = headS e c := by unfold headS; rw [if_pos ⟨c1, by rw [pf.2.2.2]; omega⟩]
        have := join_c (g := []) (x := firstS e c) (line := line) (K := fun a15 y16 => ∃ n71 : Nat, wp_X2_lineUp_b71 K lists lsz n71 a15 y16 (sv (firstS e c)) (nI (mostS e)) 0) (by decide) trivial (fun line' h' => ⟨_, go [firstS e c] line' h' he⟩)
        rw [← sf] at this
        exact this
  have b28 : wp_X2_lineUp_b28 K lists lsz laws line cb 0 (sv (firstS e c)) := by
    unfold wp_X2_lineUp_b28
    refine ⟨vp_in_nI (N := 5) (n := 3) (by omega) (by omega), ?_⟩
    have l3 : laws ((3 : Int32).toNatClampNeg) = nI (eLw e 3) := hlw 3 (by omega)
    have := hl9 3 (by omega)
    rw [l3]
    unfold mostS at body
    by_cases q : eLw e 3 = 1
    · rw [if_pos q] at body
      rw [q]
      exact ⟨fun z => absurd rfl z, fun _ => body⟩
    · rw [if_neg q] at body
      exact ⟨fun _ => body, fun z => absurd ((nI_eq (b := 1) (by omega) (by omega)).mp z) q⟩
  unfold wp_X2_lineUp
  refine ⟨vp_in_nI (N := 5) (n := 4) (by omega) (by omega), ?_⟩
  have l4 : laws ((4 : Int32).toNatClampNeg) = nI (eLw e 4) := hlw 4 (by omega)
  have := hl9 4 (by omega)
  rw [l4]
  unfold firstS at b28
  by_cases q : eLw e 4 = 1
  · rw [if_pos q] at b28
    rw [q]
    refine ⟨fun z => absurd rfl z, fun _ => ⟨vp_in_nI hc (by omega), ?_⟩⟩
    rw [nI_clamp (by omega), hn]
    exact b28
  · rw [if_neg q] at b28
    exact ⟨fun _ => b28, fun z => absurd ((nI_eq (b := 1) (by omega) (by omega)).mp z) q⟩
