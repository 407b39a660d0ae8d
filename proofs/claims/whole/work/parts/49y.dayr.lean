/-! the reference works a day -/
def DXr (P P' G : Nat → Prop) (W C : Nat) (bk dy cY cm : Nat → Nat) (e : EV) (to fd ud vs cb cs pw ps pt pl hw_ hd_ hf_ ht_ csk cd cwt cnm cmi cy crf : Nat → Int32) (tx kn pp hh : Int32) : Prop :=
  (eD e < 100 ∧ W ≤ 16 ∧ C ≤ 60 ∧ ∀ j, j < 5 → eLw e j ≤ 999) ∧ (∀ w, P w → w < W ∧ eSg e w < eD e) ∧ (∀ w, P' w ↔ (P w ∨ (w < 16 ∧ eSg e w = eD e))) ∧ (∀ w, w < W → cb w = nI (bk w) ∧ bk w < 3)
  ∧ (∀ w, w < W → ∃ v, v < 100 ∧ cs w = nI v ∧ (v = eD e ↔ eSg e w = eD e) ∧ (v ≤ eD e ↔ eSg e w ≤ eD e)) ∧ (∀ w, W ≤ w → w < 16 → ¬ eSg e w ≤ eD e)
  ∧ (∀ c, G c → c < 60 ∧ dy c = eCf e c 0 ∧ eCf e c 0 ≤ 30) ∧ (∀ c, c ∈ eCl e → G c ∧ okC e c ∧ cd c = nI (eCf e c 0) ∧ crf c = eRf e c ∧ cmi c = nI (eCf e c 3) ∧ cwt c = nI (eCf e c 1) ∧ cnm c = sv (eCf e c 2) ∧ (eCf e c 2 = 1000 ∨ P' (eCf e c 2)))
  ∧ (∀ w, P' w → eBk e w = bk w) ∧ (∀ c w, c ∈ eCl e → P' w → (∀ K : Int32 → Prop, K (nI (eP e c w)) → wp_X8_hasPaper pw ps pt pl pp (nI w) (csk c) (nI (eD e)) K) ∧ eP e c w ≤ 1)
  ∧ (∀ w, P' w → (∀ m (K : Int32 → Prop), m < 20000 → K (nI (eH e w m)) → wp_X8_isHere hw_ hd_ hf_ ht_ hh (nI w) (nI (eD e)) (nI m) K) ∧ ∀ m, eH e w m ≤ 1)
  ∧ (∀ j (K : Int32 → Prop), j < 5 → K (nI (eLw e j)) → wp_X8_lawOf to fd ud vs tx (nI j) (nI (eD e)) kn K)
  ∧ CLs C cY cm (eD e) (eCl e) ∧ rw_ C cmi cm ∧ rw_ C cy cY ∧ ∀ k, k < C → cY k < 100 ∧ cm k < 600
theorem loop119_r {P P' G : Nat → Prop} {W C sb : Nat} {bk dy cY cm : Nat → Nat} {e : EV} {to fd ud vs cb cs pw ps pt pl hw_ hd_ hf_ ht_ csk cd cwt cnm cmi cy crf : Nat → Int32} {tx kn pp hh x2 : Int32}
    {K : (Nat → Int32) → (Nat → Int32) → (Nat → Int32) → (Nat → Int32) → (Nat → Int32) → (Nat → Int32) → (Nat → Int32) → (Nat → Int32) → (Nat → Int32) → Int32 → Int32 → Int32 → Int32 → (Nat → Int32) → Prop}
    {k86 : (Nat → Int32) → (Nat → Int32) → (Nat → Int32) → (Nat → Int32) → (Nat → Int32) → (Nat → Int32) → (Nat → Int32) → (Nat → Int32) → (Nat → Int32) → Int32 → Int32 → Int32 → Int32 → (Nat → Int32) → Int32 → Prop}
    (hX : DXr P P' G W C bk dy cY cm e to fd ud vs cb cs pw ps pt pl hw_ hd_ hf_ ht_ csk cd cwt cnm cmi cy crf tx kn pp hh) (hkn : (x2 = -1 ∧ kn = nI (eD e)) ∨ (¬ x2 = -1 ∧ kn = x2)) :
    ∀ (suf pre : List Nat) (s : FS) (row many on jl jd jc rf wy mi sn : Nat → Int32) (ck lf dn : Int32), eCl e = pre ++ suf → IV P' G (eD e + 1) s → sb ≤ s.2.2.2.2.2 → (∀ c, c ∈ suf → ∀ w, w < 16 → s.2.2.2.2.1 (16 * c + w) = 0) → RM bk dy s row many on jl jd jc rf wy mi →
    (∀ g1 g2 g3 g4 g5 g6 g7 g8 g9 ck lf dn sn, RM bk dy (suf.foldl (clS e) s) g1 g2 g3 g4 g5 g6 g7 g8 g9 → k86 g1 g2 g3 g4 g5 g6 g7 g8 g9 (nI ((suf.foldl (clS e) s).2.2.2.2.2 - sb)) ck lf dn sn (nI (eD e + 1))) →
    wp_X8_works_b119 K k86 to fd ud vs tx cb cs (nI W) pw ps pt pl pp hw_ hd_ hf_ ht_ hh csk cd cwt cnm cmi cy crf (nI C) x2 (suf.length + 1) row many on jl jd jc rf wy mi (nI (s.2.2.2.2.2 - sb)) ck lf dn sn (nI (eD e)) (oi suf.head?) := by
  obtain ⟨⟨hD, hW, hC, hl9⟩, hPW, hP', hb, hs, hs2, hG, hcl, hbk, hpap, hher, hlaw, hcls, rmi, rcy, hrg⟩ := hX
  have hP16 : ∀ w, P' w → w < W ∧ w < 16 ∧ eSg e w ≤ eD e := fun w hw => by
    rcases (hP' w).mp hw with q | q
    · have := hPW w q; omega
    · by_cases t : w < W
      · exact ⟨t, q.1, by omega⟩
      · exact absurd (by omega) (hs2 w (by omega) q.1)
  intro suf
  induction suf with
  | nil =>
    intro pre s row many on jl jd jc rf wy mi sn ck lf dn hl hI hsb hz hM hK
    rw [wp_X8_works_b119]
    refine ⟨fun _ => ?_, fun q => absurd rfl q⟩
    rintro _ rfl
    rw [nI_1]
    exact hK _ _ _ _ _ _ _ _ _ _ _ _ _ hM
  | cons c suf ih =>
    intro pre s row many on jl jd jc rf wy mi sn ck lf dn hl hI hsb hz hM hK
    have hcm : c ∈ eCl e := by rw [hl]; simp
    obtain ⟨c1, c2, c3, c4, c5, c6, c7, c8⟩ := hcl c hcm
    have gc := hG c c1
    have cC := (hcls.1 c).mp hcm
    have hX1 : CXr P' e c bk dy to fd ud vs cb pw ps pt pl hw_ hd_ hf_ ht_ csk cd crf tx kn pp hh :=
      ⟨gc.1, c2, hlaw, fun w hw => ⟨(hP16 w hw).2.1, (hb w (hP16 w hw).1).1, (hb w (hP16 w hw).1).2, hbk w hw⟩, fun w hw => hpap c w hcm hw, hher, c4, c3, gc.2.1⟩
    have hf : firstS e c ≠ 1000 → P' (firstS e c) := by
      unfold firstS
      split
      · exact fun q => c8.resolve_left q
      · exact fun q => absurd rfl q
    have st := clS_ok (fun w hw => (hP16 w hw).2.1) hI c1 (Nat.le_refl _) c2 hf
    have nd : c ∉ suf := by
      have := hcls.2
      rw [hl, List.pairwise_append, List.pairwise_cons] at this
      exact fun q => by have := this.2.1.1 c q; omega
    have body : wp_X8_works_b139 K k86 (fun mm_row mm_rowMany mm_isOn mm_jobLast mm_jobDays mm_jobCall mm_refusals mm_whys mm_minutes mm_sentMany mm_clock mm_left mm_done mm_snapshot x3 x4 => wp_X8_works_b119 K k86 to fd ud vs tx cb cs (nI W) pw ps pt pl pp hw_ hd_ hf_ ht_ hh csk cd cwt cnm cmi cy crf (nI C) x2 (suf.length + 1) mm_row mm_rowMany mm_isOn mm_jobLast mm_jobDays mm_jobCall mm_refusals mm_whys mm_minutes mm_sentMany mm_clock mm_left mm_done mm_snapshot x3 x4) to fd ud vs tx cb cs (nI W) pw ps pt pl pp hw_ hd_ hf_ ht_ hh csk cd cwt cnm cmi cy crf (nI C) row many on jl jd jc rf wy mi (nI (s.2.2.2.2.2 - sb)) ck lf dn sn (nI (eD e)) (nI c) kn (nI (eD e)) (nI c) := by
      unfold wp_X8_works_b139
      refine asks_r hX1 c1 (Nat.le_refl _) hI hW hsb (hz c List.mem_cons_self) (fun w hw => by obtain ⟨v, v1, v2, -, v4⟩ := hs w hw; exact ⟨v, v1, v2, v4⟩) hs2 (fun w hw => ⟨(hP16 w hw).1, (hP16 w hw).2.2⟩) c5 c6 c7 c8 hM (fun g1 g2 g3 g4 g5 g6 g7 g8 g9 ck lf dn sn hM' => ?_)
      refine nextCall_r (o := some c) (cY := cY) (cm := cm) hC hD (fun k hk => (hrg k hk).1) (fun k hk => (hrg k hk).2) rmi rcy (fun c' z => by cases z; exact cC.1) (fun b hbest => ?_)
      have hl2 : eCl e = (pre ++ [c]) ++ suf := by rw [hl]; simp
      have := head_best (pre := pre ++ [c]) (suf := suf) (by rw [← hl2]; exact hcls) (Or.inr ⟨pre, c, rfl, rfl⟩) hbest
      rw [this]
      refine ih (pre ++ [c]) (clS e s c) g1 g2 g3 g4 g5 g6 g7 g8 g9 sn ck lf dn hl2 st.1 (by omega) (fun c' hc' w hw => ?_) hM' hK
      rw [st.2.2 _ (fun q => nd (by rw [show (16 * c' + w) / 16 = c' from by omega] at q; rw [← q]; exact hc'))]
      exact hz c' (List.mem_cons_of_mem _ hc') w hw
    rw [wp_X8_works_b119]
    refine ⟨fun q => absurd q (ne_m1 (v := c) (by omega)), fun _ => ⟨fun q => ?_, fun q => ?_⟩⟩
    · rcases hkn with t | t
      · exact absurd t.1 q
      · have b := body
        rw [t.2] at b
        exact b
    · rcases hkn with t | t
      · have b := body
        rw [t.2] at b
        exact b
      · exact absurd q t.1
theorem day_r {P P' G : Nat → Prop} {W C : Nat} {bk dy cY cm : Nat → Nat} {e : EV} {s : FS} {to fd ud vs cb cs pw ps pt pl hw_ hd_ hf_ ht_ csk cd cwt cnm cmi cy crf row many on jl jd jc rf wy mi sn : Nat → Int32} {tx kn pp hh x2 sm ck lf dn : Int32}
    {K : (Nat → Int32) → (Nat → Int32) → (Nat → Int32) → (Nat → Int32) → (Nat → Int32) → (Nat → Int32) → (Nat → Int32) → (Nat → Int32) → (Nat → Int32) → Int32 → Int32 → Int32 → Int32 → (Nat → Int32) → Prop}
    {k86 : (Nat → Int32) → (Nat → Int32) → (Nat → Int32) → (Nat → Int32) → (Nat → Int32) → (Nat → Int32) → (Nat → Int32) → (Nat → Int32) → (Nat → Int32) → Int32 → Int32 → Int32 → Int32 → (Nat → Int32) → Int32 → Prop}
    (hX : DXr P P' G W C bk dy cY cm e to fd ud vs cb cs pw ps pt pl hw_ hd_ hf_ ht_ csk cd cwt cnm cmi cy crf tx kn pp hh) (hkn : (x2 = -1 ∧ kn = nI (eD e)) ∨ (¬ x2 = -1 ∧ kn = x2))
    (hI : IV P G (eD e) s) (hz : ∀ c, c ∈ eCl e → ∀ w, w < 16 → s.2.2.2.2.1 (16 * c + w) = 0) (hM : RM bk dy s row many on jl jd jc rf wy mi)
    (hK : ∀ g1 g2 g3 g4 g5 g6 g7 g8 g9 ck lf dn sn, RM bk dy (dayS e s) g1 g2 g3 g4 g5 g6 g7 g8 g9 → k86 g1 g2 g3 g4 g5 g6 g7 g8 g9 (nI ((dayS e s).2.2.2.2.2 - s.2.2.2.2.2)) ck lf dn sn (nI (eD e + 1))) :
    wp_X8_works_b103 K k86 to fd ud vs tx cb cs (nI W) pw ps pt pl pp hw_ hd_ hf_ ht_ hh csk cd cwt cnm cmi cy crf (nI C) x2 row many on jl jd jc rf wy mi sm ck lf dn sn (nI (eD e)) kn (nI (eD e)) := by
  have hX0 := hX
  obtain ⟨⟨hD, hW, hC, hl9⟩, hPW, hP', hb, hs, hs2, hG, hcl, hbk, hpap, hher, hlaw, hcls, rmi, rcy, hrg⟩ := hX0
  obtain ⟨M1, M2, M3, M4, M5, M6⟩ := hM
  have back := backS_IV (e := e) hI 16
  have dawn := dawn_IV (P' := P') (fun w hw => by have := (hPW w hw).1; omega) hP' hI
  have dm := dawn_more (e := e) hI
  have dj : ∀ w, (dawnS e s).2.1 w ≠ 1000 → (dawnS e s).2.1 w = s.2.1 w := by
    have : ∀ n w, (backS e n s).2.1 w ≠ 1000 → (backS e n s).2.1 w = s.2.1 w := by
      intro n
      induction n with
      | zero => intro w _; rfl
      | succ n ih =>
        intro w
        show (backStep e n (backS e n s)).2.1 w ≠ 1000 → (backStep e n (backS e n s)).2.1 w = s.2.1 w
        by_cases c : (backS e n s).2.1 n ≠ 1000 ∧ (backS e n s).2.2.1 n < eD e
        · rw [back_t c]
          show ap (backS e n s).2.1 n 1000 w ≠ 1000 → ap (backS e n s).2.1 n 1000 w = s.2.1 w
          by_cases q : w = n
          · rw [q, ap_s]; exact fun z => absurd rfl z
          · rw [ap_n q]; exact ih w
        · rw [back_f c]; exact ih w
    have t := this 16
    unfold dawnS
    generalize backS e 16 s = B at t ⊢
    exact t
  unfold wp_X8_works_b103
  refine begin_r hI hPW hW hb (fun w hw => by obtain ⟨v, v1, v2, v3, -⟩ := hs w hw; exact ⟨v, v1, v2, v3⟩) (fun w w1 w2 q => hs2 w w1 w2 (by omega)) (fun K h => hlaw 0 K (by omega) h) (hl9 0 (by omega)) hG hD M1 M2 M3 M4 (fun g1 g2 g3 g4 h1 h3 h4 => ?_)
  refine nextCall_r (o := none) (cY := cY) (cm := cm) hC hD (fun k hk => (hrg k hk).1) (fun k hk => (hrg k hk).2) rmi rcy (fun c' z => by cases z) (fun b hbest => ⟨(eCl e).length + 1, ?_⟩)
  have := head_best (pre := []) (suf := eCl e) hcls (Or.inl ⟨rfl, rfl⟩) hbest
  rw [this]
  have hM2 : RM bk dy (dawnS e s) g1 g2 g3 jl jd g4 rf wy mi := by
    refine ⟨h1, h3, fun w hw hj => ?_, h4, fun w hw => ?_, fun j hj => ?_⟩
    · rw [dm, dj w hj]
      refine M3 w hw ?_
      rw [← dj w hj]; exact hj
    · rw [dm]; exact M5 w hw
    · rw [dm]; exact M6 j hj
  have l := loop119_r (sb := s.2.2.2.2.2) (K := K) (k86 := k86) hX hkn (eCl e) [] (dawnS e s) g1 g2 g3 jl jd g4 rf wy mi sn ck lf dn rfl dawn (by rw [dm]; exact Nat.le_refl _) (fun c hc w hw => by rw [dm]; exact hz c hc w hw) hM2 hK
  rw [dm, Nat.sub_self] at l
  exact l
