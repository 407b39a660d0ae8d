/-! a call worked: the spec's facts, and the class -/
theorem askS_more {e : EV} {c w : Nat} {x : FS × Nat × Nat} (hw : w < 16) : x.1.2.2.2.2.2 ≤ (askS e c w x).1.2.2.2.2.2 ∧ (askS e c w x).2.2 ≤ x.2.2 ∧ (∀ j, j / 16 ≠ c → (askS e c w x).1.2.2.2.2.1 j = x.1.2.2.2.2.1 j) ∧ (whyS e x.1 c w x.2.1 = 5 → (askS e c w x).2.2 = x.2.2 - 1) ∧ (whyS e x.1 c w x.2.1 ≠ 5 → (askS e c w x).2.2 = x.2.2) := by
  have nt : ∀ v j, j / 16 ≠ c → ap x.1.2.2.2.2.1 (16 * c + w) v j = x.1.2.2.2.2.1 j := fun v j hj => ap_n (fun q => hj (by omega))
  by_cases c4 : whyS e x.1 c w x.2.1 = 4
  · by_cases cl : limB e (x.1.2.2.2.1 w + 1) = true
    · rw [ask_4t c4 cl]; exact ⟨Nat.le_refl _, Nat.le_refl _, nt _, fun q => by omega, fun _ => rfl⟩
    · rw [ask_4f c4 cl]; exact ⟨Nat.le_refl _, Nat.le_refl _, nt _, fun q => by omega, fun _ => rfl⟩
  · by_cases c5 : whyS e x.1 c w x.2.1 = 5
    · rw [ask_5 c5]; exact ⟨Nat.le_succ _, Nat.sub_le _ _, nt _, fun _ => rfl, fun q => absurd c5 q⟩
    · rw [ask_o c4 c5]; exact ⟨Nat.le_refl _, Nat.le_refl _, nt _, fun q => absurd q c5, fun _ => rfl⟩
def okC (e : EV) (c : Nat) : Prop := eD e < 100 ∧ (1 ≤ eCf e c 0 ∧ eCf e c 0 ≤ 30) ∧ (∀ j, j < 5 → eLw e j ≤ 999) ∧ eCf e c 3 < 600 ∧ (1 ≤ eCf e c 1 ∧ eCf e c 1 ≤ 9)
theorem askL_ok {P G : Nat → Prop} {lo c : Nat} {e : EV} (hP : ∀ w, P w → w < 16) (hc : G c) (hlo : lo ≤ eD e + 1) (ho : okC e c) : ∀ (l : List Nat) (x : FS × Nat × Nat), IV P G lo x.1 → (∀ w, w ∈ l → P w) → x.2.1 + 999 * l.length < 19000 →
    IV P G lo (askL e c l x) ∧ x.1.2.2.2.2.2 ≤ (askL e c l x).2.2.2.2.2 ∧ (∀ j, j / 16 ≠ c → (askL e c l x).2.2.2.2.1 j = x.1.2.2.2.2.1 j)
  | [], x, hI, _, _ => ⟨hI, Nat.le_refl _, fun _ _ => rfl⟩
  | w :: l, x, hI, hl, hk => by
    rw [List.length_cons] at hk
    rw [askL]
    by_cases z : x.2.2 = 0
    · rw [if_pos z]; exact ⟨hI, Nat.le_refl _, fun _ _ => rfl⟩
    · rw [if_neg z]
      have hw := hl w List.mem_cons_self
      have a := askS_IV (c := c) (w := w) hI hw hc (by omega) hlo ho.1 ho.2.1 (ho.2.2.1 2 (by omega))
      have m := askS_more (e := e) (c := c) (x := x) (hP w hw)
      have ih := askL_ok hP hc hlo ho l (askS e c w x) a.1 (fun v hv => hl v (List.mem_cons_of_mem _ hv)) (by omega)
      exact ⟨ih.1, by omega, fun j hj => by rw [ih.2.2 j hj, m.2.2.1 j hj]⟩
theorem clS_ok {P G : Nat → Prop} {lo c : Nat} {e : EV} {s : FS} (hP : ∀ w, P w → w < 16) (hI : IV P G lo s) (hc : G c) (hlo : lo ≤ eD e + 1) (ho : okC e c) (hf : firstS e c ≠ 1000 → P (firstS e c)) :
    IV P G lo (clS e s c) ∧ s.2.2.2.2.2 ≤ (clS e s c).2.2.2.2.2 ∧ (∀ j, j / 16 ≠ c → (clS e s c).2.2.2.2.1 j = s.2.2.2.2.1 j) := by
  have lq := lineQ_ok (e := e) (c := c) hI.1 hI.2.1 hf
  have hlen : (lineQ e c s.1).length ≤ 16 := nodup_len lq.1 (fun x hx => hP x (lq.2 x hx))
  have hI2 : IV P G lo (s.1, s.2.1, s.2.2.1, s.2.2.2.1, noteS e c s.2.2.2.2.1, s.2.2.2.2.2) := by
    refine ⟨hI.1, hI.2.1, hI.2.2.1, fun j => ?_⟩
    show noteS e c s.2.2.2.2.1 j < 160000
    unfold noteS
    split
    · omega
    · exact hI.2.2.2 j
  have ok := ho.2.2.2.1
  have := askL_ok hP hc hlo ho (lineQ e c s.1) ((s.1, s.2.1, s.2.2.1, s.2.2.2.1, noteS e c s.2.2.2.2.1, s.2.2.2.2.2), eCf e c 3, eCf e c 1) hI2 lq.2 (by show eCf e c 3 + _ < _; omega)
  refine ⟨this.1, this.2.1, fun j hj => ?_⟩
  show (askL e c (lineQ e c s.1) ((s.1, s.2.1, s.2.2.1, s.2.2.2.1, noteS e c s.2.2.2.2.1, s.2.2.2.2.2), eCf e c 3, eCf e c 1)).2.2.2.2.1 j = _
  rw [this.2.2 j hj]
  show noteS e c s.2.2.2.2.1 j = s.2.2.2.2.1 j
  unfold noteS
  rw [if_neg (fun q => hj q.1)]
def CXc (P : Nat → Prop) (e : EV) (c : Nat) (bk : Nat → Nat) (laws cb lp pb pl pt : Nat → Int32) (pp : Int32) (mh csk cd crf : Nat → Int32) : Prop :=
  c < 60 ∧ okC e c ∧ (∀ j, j < 5 → laws j = nI (eLw e j)) ∧ (∀ w, P w → w < 16 ∧ cb w = nI (bk w) ∧ bk w < 3 ∧ eBk e w = bk w) ∧ (∀ w, P w → (∀ K : Int32 → Prop, K (nI (eP e c w)) → wp_X1_hasPaper lp pb pl pt pp (nI w) (csk c) (nI (eD e)) K) ∧ eP e c w ≤ 1)
  ∧ (∀ w, P w → (∀ m (K : Int32 → Prop), m < 20000 → K (nI (eH e w m)) → wp_X1_isHere mh (nI w) (nI (eD e)) (nI m) K) ∧ ∀ m, eH e w m ≤ 1) ∧ crf c = eRf e c ∧ cd c = nI (eCf e c 0)
theorem loop76_c {P G : Nat → Prop} {lo c : Nat} {bk : Nat → Nat} {e : EV} {z laws cb lp pb pl pt mh csk cd crf line : Nat → Int32} {pp : Int32} {L : List Nat} {K : (Nat → Int32) → (Nat → Int32) → (Nat → Int32) → (Nat → Int32) → (Nat → Int32) → (Nat → Int32) → Int32 → Int32 → Int32 → Prop}
    (hX : CXc P e c bk laws cb lp pb pl pt pp mh csk cd crf) (hG : ∀ c, G c → c < 60) (hc : G c) (hlo : lo ≤ eD e + 1) (hL : RwL line 0 L) (hL16 : L.length ≤ 16) (hLP : ∀ w, w ∈ L → P w) :
    ∀ (suf pre : List Nat) (x : FS × Nat × Nat) (f1 f3 f4 f5 f6 : Nat → Int32), L = pre ++ suf → IV P G lo x.1 → x.2.1 + 999 * suf.length < 19000 → x.2.2 ≤ 9 → RF bk x.1 f1 z f3 f4 f5 f6 →
    (∀ g1 g3 g4 g5 g6 ck, RF bk (askL e c suf x) g1 z g3 g4 g5 g6 → K g1 g3 g4 g5 g6 line (nI L.length) ck (nI (askL e c suf x).2.2.2.2.2)) →
    wp_X2_workCall_b76 K z laws cb lp pb pl pt pp mh csk cd crf (nI c) (nI (eD e)) (suf.length + 1) f1 f3 f4 f5 f6 line (nI L.length) (nI x.2.1) (nI x.1.2.2.2.2.2) (nI x.2.2) (nI pre.length) := by
  obtain ⟨hc60, ho, hlw, hPb, hpap, hher, hrf, hcd⟩ := hX
  intro suf
  induction suf with
  | nil =>
    intro pre x f1 f3 f4 f5 f6 hLe hI hk h9 hF hK
    rw [List.append_nil] at hLe
    rw [wp_X2_workCall_b76]
    refine pk_le L.length pre.length (fun _ => hK _ _ _ _ _ _ hF) (fun q => by rw [hLe] at q; omega) (hb := by rw [← hLe]; omega)
  | cons w suf ih =>
    intro pre x f1 f3 f4 f5 f6 hLe hI hk h9 hF hK
    have hln : L.length = pre.length + suf.length + 1 := by rw [hLe]; simp; omega
    rw [List.length_cons] at hk
    rw [wp_X2_workCall_b76]
    refine pk_le L.length pre.length (fun q => by omega) (fun _ => ?_)
    rw [askL] at hK
    refine pk_le x.2.2 0 (fun q => ?_) (fun q => ⟨vp_in_nI (by omega) (by omega), ?_⟩)
    · rw [if_pos (by omega)] at hK
      exact hK _ _ _ _ _ _ hF
    · rw [if_neg (by omega)] at hK
      have hw := hLP w (by rw [hLe]; simp)
      have hlw' : line pre.length = nI w := by
        rw [hLe, RwL_app] at hL
        have := hL.2.1
        rw [Nat.zero_add] at this
        exact this
      rw [nI_clamp (n := pre.length) (by omega), hlw']
      have a := askS_IV (c := c) (w := w) hI hw hc (by omega) hlo ho.1 ho.2.1 (ho.2.2.1 2 (by omega))
      have m := askS_more (e := e) (c := c) (x := x) (hPb w hw).1
      have e2 : pre.length + 1 = (pre ++ [w]).length := by simp
      have e3 : L = pre ++ [w] ++ suf := by rw [hLe]; simp
      have wl := whyS_lt (e := e) (s := x.1) (c := c) (w := w) (k := x.2.1)
      refine ask_c (l := x.2.2) hI (fun v hv => (hPb v hv).1) hG hw hc60 (by omega) hlw ho.2.2.1 ⟨(hPb w hw).2.1, (hPb w hw).2.2.1⟩ (hpap w hw).1 (hpap w hw).2 (hher w hw).1 (hher w hw).2 hrf ⟨hcd, ho.2.1⟩ ho.1 hF (fun g1 g3 g4 g5 g6 hF' => ?_)
      have nx := fun (y : Nat) (hy : (askS e c w x).2.2 = y) => ih (pre ++ [w]) (askS e c w x) g1 g3 g4 g5 g6 e3 a.1 (by omega) (by omega) hF' hK
      refine ⟨fun q => ?_, fun q => ?_⟩
      · have q5 : whyS e x.1 c w x.2.1 ≠ 5 := fun t => q (by rw [t]; rfl)
        rintro _ rfl
        rw [nI_1, e2]
        have := nx _ rfl
        rw [m.2.2.2.2 q5] at this
        exact this
      · have q5 : whyS e x.1 c w x.2.1 = 5 := (nI_eq (by omega) (by omega)).mp (q.trans (show (5 : Int32) = nI 5 from rfl))
        rintro _ rfl _ rfl
        rw [nI_1, e2]
        have := nx _ rfl
        rw [m.2.2.2.1 q5] at this
        have hm : nI x.2.2 + (-1) = nI (x.2.2 - 1) := by
          obtain ⟨y, hy⟩ : ∃ y, x.2.2 = y + 1 := ⟨x.2.2 - 1, by omega⟩
          rw [hy, pk_m1]; rfl
        rw [hm]
        exact this
theorem workCall_c {P G : Nat → Prop} {lo c W : Nat} {bk : Nat → Nat} {e : EV} {s : FS} {f1 z f3 f4 f5 f6 laws cb cs lp pb pl pt mh csk cd crf line cwt cnm cmi : Nat → Int32} {pp n0 ck0 : Int32} {K : (Nat → Int32) → (Nat → Int32) → (Nat → Int32) → (Nat → Int32) → (Nat → Int32) → (Nat → Int32) → Int32 → Int32 → Int32 → Prop}
    (hX : CXc P e c bk laws cb lp pb pl pt pp mh csk cd crf) (hG : ∀ c, G c → c < 60) (hc : G c) (hlo : lo ≤ eD e + 1) (hI : IV P G lo s) (hW : W ≤ 16)
    (hs : ∀ w, w < W → ∃ v, v < 100 ∧ cs w = nI v ∧ (v ≤ eD e ↔ eSg e w ≤ eD e)) (hs2 : ∀ w, W ≤ w → w < 16 → ¬ eSg e w ≤ eD e)
    (hmi : cmi c = nI (eCf e c 3)) (hwt : cwt c = nI (eCf e c 1)) (hnm : cnm c = sv (eCf e c 2)) (hnm2 : eCf e c 2 = 1000 ∨ P (eCf e c 2)) (hF : RF bk s f1 z f3 f4 f5 f6)
    (hK : ∀ g1 g3 g4 g5 g6 ln n ck, RF bk (clS e s c) g1 z g3 g4 g5 g6 → K g1 g3 g4 g5 g6 ln n ck (nI (clS e s c).2.2.2.2.2)) :
    wp_X2_workCall f1 z f3 f4 f5 f6 laws line n0 ck0 (nI s.2.2.2.2.2) cb cs (nI W) lp pb pl pt pp mh csk cd cwt cnm cmi crf (nI c) (nI (eD e)) K := by
  have hX0 := hX
  obtain ⟨hc60, ho, hlw, hPb, -⟩ := hX0
  obtain ⟨F1, F3, F4, F5, F6⟩ := hF
  have hf : firstS e c ≠ 1000 → P (firstS e c) := by
    unfold firstS
    split
    · exact fun q => hnm2.resolve_left q
    · exact fun q => absurd rfl q
  have lq := lineQ_ok (e := e) (c := c) hI.1 hI.2.1 hf
  have hI2 : IV P G lo (s.1, s.2.1, s.2.2.1, s.2.2.2.1, noteS e c s.2.2.2.2.1, s.2.2.2.2.2) := by
    refine ⟨hI.1, hI.2.1, hI.2.2.1, fun j => ?_⟩
    show noteS e c s.2.2.2.2.1 j < 160000
    unfold noteS
    split
    · omega
    · exact hI.2.2.2 j
  have loop : ∀ m i (g6 : Nat → Int32), i + m = W → (∀ j, j < 960 → g6 j = nI (if j / 16 = c ∧ j % 16 < i ∧ eSg e (j % 16) ≤ eD e then 6 else s.2.2.2.2.1 j)) → wp_X2_workCall_b2 K f1 z f3 f4 f5 laws line n0 (nI s.2.2.2.2.2) cb cs (nI W) lp pb pl pt pp mh csk cd cwt cnm cmi crf (nI c) (nI (eD e)) (m + 1) g6 (nI i) := by
    intro m
    induction m with
    | zero =>
      intro i g6 hi h6
      rw [wp_X2_workCall_b2]
      refine pk_le W i (fun _ => ?_) (fun q => by omega)
      refine lineUp_c (e := e) hc60 hI.1 hI.2.1 hPb hlw ho.2.2.1 hnm hnm2 F1 (fun line' hl' hlen => ⟨vp_in_nI hc60 (by omega), ?_⟩)
      rw [nI_clamp (n := c) (by omega), hmi, hwt]
      rintro _ rfl
      refine ⟨vp_in_nI hc60 (by omega), ?_⟩
      rintro _ rfl
      refine ⟨(lineQ e c s.1).length + 1, ?_⟩
      have o3 := ho.2.2.2.1
      have o1 := ho.2.2.2.2
      refine loop76_c hX hG hc hlo hl' hlen lq.2 (lineQ e c s.1) [] ((s.1, s.2.1, s.2.2.1, s.2.2.2.1, noteS e c s.2.2.2.2.1, s.2.2.2.2.2), eCf e c 3, eCf e c 1) f1 f3 f4 f5 g6 rfl hI2 (by show eCf e c 3 + _ < _; omega) (by show eCf e c 1 ≤ 9; omega) ⟨F1, F3, F4, F5, fun j hj => ?_⟩ (fun g1 g3 g4 g5 g6 ck h => hK g1 g3 g4 g5 g6 _ _ ck h)
      rw [h6 j hj]
      show _ = nI (noteS e c s.2.2.2.2.1 j)
      congr 1
      unfold noteS
      by_cases q : j / 16 = c ∧ eSg e (j % 16) ≤ eD e
      · have : j % 16 < i := by
          by_cases t : j % 16 < i
          · exact t
          · exact absurd q.2 (hs2 (j % 16) (by omega) (by omega))
        rw [if_pos q, if_pos ⟨q.1, this, q.2⟩]
      · rw [if_neg q, if_neg (fun t => q ⟨t.1, t.2.2⟩)]
    | succ m ih =>
      intro i g6 hi h6
      obtain ⟨v, hv, hv2, hv3⟩ := hs i (by omega)
      have ix : nI c * 16 + nI i = nI (16 * c + i) := by rw [show (16 : Int32) = nI 16 from rfl, pk_mul, nI_add, Nat.mul_comm]
      have hD := ho.1
      rw [wp_X2_workCall_b2]
      refine pk_le W i (fun q => by omega) (fun _ => ⟨vp_in_nI (by omega) (by omega), ?_⟩)
      rw [nI_clamp (n := i) (by omega), hv2]
      refine pk_lt (eD e) v (fun q => ?_) (fun q => ?_)
      · rintro _ rfl
        rw [nI_1]
        refine ih (i + 1) g6 (by omega) (fun j hj => ?_)
        rw [h6 j hj]
        congr 1
        have nq : ¬ eSg e i ≤ eD e := fun t => by have := hv3.mpr t; omega
        by_cases t : j / 16 = c ∧ j % 16 < i ∧ eSg e (j % 16) ≤ eD e
        · rw [if_pos t, if_pos ⟨t.1, by omega, t.2.2⟩]
        · rw [if_neg t, if_neg (fun u => t ⟨u.1, by
            by_cases y : j % 16 = i
            · rw [y] at u; exact absurd u.2.2 nq
            · omega, u.2.2⟩)]
      · rw [ix]
        refine ⟨vp_in_nI (by omega) (by omega), ?_⟩
        rintro _ rfl
        rw [nI_1, nI_clamp (n := 16 * c + i) (by omega)]
        refine ih (i + 1) _ (by omega) (fun j hj => ?_)
        by_cases y : j = 16 * c + i
        · subst y
          rw [pk_us, if_pos ⟨by omega, by omega, by rw [show (16 * c + i) % 16 = i from by omega]; exact hv3.mp q⟩]
          rfl
        · rw [pk_un y, h6 j hj]
          congr 1
          by_cases t : j / 16 = c ∧ j % 16 < i ∧ eSg e (j % 16) ≤ eD e
          · rw [if_pos t, if_pos ⟨t.1, by omega, t.2.2⟩]
          · rw [if_neg t, if_neg (fun u => t ⟨u.1, by omega, u.2.2⟩)]
  unfold wp_X2_workCall
  exact ⟨W + 1, loop W 0 f6 (by omega) (fun j hj => by rw [if_neg (fun t => by omega)]; exact F6 j hj)⟩
