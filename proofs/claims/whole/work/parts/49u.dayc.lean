/-! the class works a day -/
/-- what the class's rows say of a day that is worked -/
def DXc (P P' G : Nat → Prop) (W n C : Nat) (bk : Nat → Nat) (e : EV) (cb cs lp pb pl pt mh csk cd cwt cnm cmi cy crf co : Nat → Int32) (pp : Int32) : Prop :=
  (eD e < 100 ∧ W ≤ 16 ∧ C ≤ 60 ∧ n + (eCl e).length ≤ C ∧ ∀ j, j < 5 → eLw e j ≤ 999) ∧ (∀ w, P w → w < W ∧ eSg e w < eD e) ∧ (∀ w, P' w ↔ (P w ∨ (w < 16 ∧ eSg e w = eD e))) ∧ (∀ w, w < W → cb w = nI (bk w) ∧ bk w < 3)
  ∧ (∀ w, w < W → ∃ v, v < 100 ∧ cs w = nI v ∧ (v = eD e ↔ eSg e w = eD e) ∧ (v ≤ eD e ↔ eSg e w ≤ eD e)) ∧ (∀ w, W ≤ w → w < 16 → ¬ eSg e w ≤ eD e)
  ∧ (∀ c, G c → c < 60 ∧ cd c = nI (eCf e c 0) ∧ eCf e c 0 ≤ 30) ∧ (∀ c, c ∈ eCl e → G c ∧ okC e c ∧ cy c = nI (eD e) ∧ crf c = eRf e c ∧ cmi c = nI (eCf e c 3) ∧ cwt c = nI (eCf e c 1) ∧ cnm c = sv (eCf e c 2) ∧ (eCf e c 2 = 1000 ∨ P' (eCf e c 2)))
  ∧ (∀ w, P' w → eBk e w = bk w) ∧ (∀ c w, c ∈ eCl e → P' w → (∀ K : Int32 → Prop, K (nI (eP e c w)) → wp_X1_hasPaper lp pb pl pt pp (nI w) (csk c) (nI (eD e)) K) ∧ eP e c w ≤ 1)
  ∧ (∀ w, P' w → (∀ m (K : Int32 → Prop), m < 20000 → K (nI (eH e w m)) → wp_X1_isHere mh (nI w) (nI (eD e)) (nI m) K) ∧ ∀ m, eH e w m ≤ 1)
  ∧ RwL co n (eCl e) ∧ (n + (eCl e).length = C ∨ ∃ q v, q < 60 ∧ co (n + (eCl e).length) = nI q ∧ v < 100 ∧ v ≠ eD e ∧ cy q = nI v)
theorem fold_ok {P G : Nat → Prop} {lo : Nat} {e : EV} (hP : ∀ w, P w → w < 16) (hlo : lo ≤ eD e + 1) : ∀ (l : List Nat) (s : FS), IV P G lo s → (∀ c, c ∈ l → G c ∧ okC e c ∧ (eCf e c 2 = 1000 ∨ P (eCf e c 2))) →
    IV P G lo (l.foldl (clS e) s) ∧ s.2.2.2.2.2 ≤ (l.foldl (clS e) s).2.2.2.2.2 ∧ (∀ j, j / 16 ∉ l → (l.foldl (clS e) s).2.2.2.2.1 j = s.2.2.2.2.1 j)
  | [], s, hI, _ => ⟨hI, Nat.le_refl _, fun _ _ => rfl⟩
  | c :: l, s, hI, hl => by
    have h := hl c List.mem_cons_self
    have hf : firstS e c ≠ 1000 → P (firstS e c) := by
      unfold firstS
      split
      · exact fun q => h.2.2.resolve_left q
      · exact fun q => absurd rfl q
    have a := clS_ok hP hI h.1 hlo h.2.1 hf
    have ih := fold_ok hP hlo l (clS e s c) a.1 (fun x hx => hl x (List.mem_cons_of_mem _ hx))
    rw [List.foldl_cons]
    refine ⟨ih.1, by omega, fun j hj => ?_⟩
    rw [ih.2.2 j (fun q => hj (List.mem_cons_of_mem _ q)), a.2.2 j (fun q => hj (by rw [q]; exact List.mem_cons_self))]
theorem dawn_more {P G : Nat → Prop} {lo : Nat} {e : EV} {s : FS} (hI : IV P G lo s) : (dawnS e s).2.2 = s.2.2 := by
  have := (backS_IV (e := e) hI 16).2.1
  unfold dawnS
  generalize backS e 16 s = t at this ⊢
  exact this
theorem loop54_c {P P' G : Nat → Prop} {W n C : Nat} {bk : Nat → Nat} {e : EV} {cb cs lp pb pl pt mh csk cd cwt cnm cmi cy crf co laws : Nat → Int32} {pp : Int32} {s0 : Nat} {K : Int32 → (Nat → Int32) → (Nat → Int32) → (Nat → Int32) → (Nat → Int32) → (Nat → Int32) → (Nat → Int32) → (Nat → Int32) → (Nat → Int32) → Int32 → Int32 → Int32 → Int32 → Prop}
    (hX : DXc P P' G W n C bk e cb cs lp pb pl pt mh csk cd cwt cnm cmi cy crf co pp) (hlw : ∀ j, j < 5 → laws j = nI (eLw e j)) :
    ∀ (suf pre : List Nat) (s : FS) (f1 z f3 f4 f5 f6 line : Nat → Int32) (n0 ck : Int32), eCl e = pre ++ suf → IV P' G (eD e + 1) s → s0 ≤ s.2.2.2.2.2 → RF bk s f1 z f3 f4 f5 f6 →
    (∀ g1 g3 g4 g5 g6 ln n1 ck', RF bk (suf.foldl (clS e) s) g1 z g3 g4 g5 g6 → K (nI ((suf.foldl (clS e) s).2.2.2.2.2 - s0)) g1 z g3 g4 g5 g6 laws ln n1 ck' (nI (n + (eCl e).length)) (nI (suf.foldl (clS e) s).2.2.2.2.2)) →
    wp_X2_work_b54 K cb cs (nI W) lp pb pl pt pp mh csk cd cwt cnm cmi cy crf co (nI C) (nI (eD e)) (suf.length + 1) f1 z f3 f4 f5 f6 laws line n0 ck (nI (n + pre.length)) (nI s.2.2.2.2.2) (nI s0) (nI (n + pre.length)) := by
  obtain ⟨⟨hD, hW, hC, hnC, hl9⟩, hPW, hP', hb, hs, hs2, hG, hcl, hbk, hpap, hher, hco, hend⟩ := hX
  have hP16 : ∀ w, P' w → w < W ∧ w < 16 := fun w hw => by
    rcases (hP' w).mp hw with q | q
    · have := hPW w q; omega
    · by_cases t : w < W
      · exact ⟨t, q.1⟩
      · exact absurd (by omega) (hs2 w (by omega) q.1)
  intro suf
  induction suf with
  | nil =>
    intro pre s f1 z f3 f4 f5 f6 line n0 ck hl hI hs0 hF hK
    rw [List.append_nil] at hl
    have fin := hK _ _ _ _ _ line n0 ck hF
    rw [List.foldl_nil] at fin
    rw [wp_X2_work_b54, pk_sub hs0]
    rw [hl] at hend hnC fin
    refine pk_le C (n + pre.length) (fun q => fin) (fun q => ?_)
    rcases hend with t | ⟨q1, v, t1, t2, t3, t4, t5⟩
    · omega
    · refine ⟨vp_in_nI (by omega) (by omega), ?_⟩
      rw [nI_clamp (n := n + pre.length) (by omega), t2]
      refine ⟨vp_in_nI t1 (by omega), ?_⟩
      rw [nI_clamp (n := q1) (by omega), t5]
      exact ⟨fun _ => fin, fun u => absurd ((nI_eq (by omega) (by omega)).mp u) t4⟩
  | cons c suf ih =>
    intro pre s f1 z f3 f4 f5 f6 line n0 ck hl hI hs0 hF hK
    have hln : (eCl e).length = pre.length + suf.length + 1 := by rw [hl]; simp; omega
    have hcm : c ∈ eCl e := by rw [hl]; simp
    obtain ⟨c1, c2, c3, c4, c5, c6, c7, c8⟩ := hcl c hcm
    have gc := hG c c1
    have hoc : co (n + pre.length) = nI c := by
      rw [hl, RwL_app] at hco
      exact hco.2.1
    rw [wp_X2_work_b54]
    refine pk_le C (n + pre.length) (fun q => by omega) (fun q => ⟨vp_in_nI (by omega) (by omega), ?_⟩)
    rw [nI_clamp (n := n + pre.length) (by omega), hoc]
    refine ⟨vp_in_nI gc.1 (by omega), ?_⟩
    rw [nI_clamp (n := c) (by omega), c3]
    refine ⟨fun u => absurd rfl u, fun _ => ⟨vp_in_nI (by omega) (by omega), ?_⟩⟩
    have hX1 : CXc P' e c bk laws cb lp pb pl pt pp mh csk cd crf :=
      ⟨gc.1, c2, hlw, fun w hw => ⟨(hP16 w hw).2, (hb w (hP16 w hw).1).1, (hb w (hP16 w hw).1).2, hbk w hw⟩, fun w hw => hpap c w hcm hw, hher, c4, gc.2.1⟩
    have hf : firstS e c ≠ 1000 → P' (firstS e c) := by
      unfold firstS
      split
      · exact fun q => c8.resolve_left q
      · exact fun q => absurd rfl q
    have st := clS_ok (fun w hw => (hP16 w hw).2) hI c1 (Nat.le_refl _) c2 hf
    refine workCall_c hX1 (fun c hc => (hG c hc).1) c1 (Nat.le_refl _) hI hW (fun w hw => by obtain ⟨v, v1, v2, -, v4⟩ := hs w hw; exact ⟨v, v1, v2, v4⟩) hs2 c5 c6 c7 c8 hF (fun g1 g3 g4 g5 g6 ln n1 ck' hF' => ?_)
    rintro _ rfl _ rfl
    have e2 : n + pre.length + 1 = n + (pre ++ [c]).length := by simp; omega
    rw [nI_1, e2]
    exact ih (pre ++ [c]) (clS e s c) g1 z g3 g4 g5 g6 ln n1 ck' (by rw [hl]; simp) st.1 (by omega) hF' (fun a1 a3 a4 a5 a6 a7 a8 a9 h => hK a1 a3 a4 a5 a6 a7 a8 a9 h)
theorem work_c {P P' G : Nat → Prop} {W n C : Nat} {bk : Nat → Nat} {e : EV} {s : FS} {cb cs lp pb pl pt mh csk cd cwt cnm cmi cy crf co laws line f1 z f3 f4 f5 f6 rfr rvo run rsa : Nat → Int32} {pp rtx kn n0 ck : Int32} {K : Int32 → (Nat → Int32) → (Nat → Int32) → (Nat → Int32) → (Nat → Int32) → (Nat → Int32) → (Nat → Int32) → (Nat → Int32) → (Nat → Int32) → Int32 → Int32 → Int32 → Int32 → Prop}
    (hX : DXc P P' G W n C bk e cb cs lp pb pl pt mh csk cd cwt cnm cmi cy crf co pp) (hsaid : ∀ j (K : Int32 → Prop), j < 5 → K (nI (eLw e j)) → wp_X4_said rfr rvo run rsa rtx (nI j) (nI (eD e)) kn K)
    (hI : IV P G (eD e) s) (hF : RF bk s f1 z f3 f4 f5 f6)
    (hK : ∀ g1 g2 g3 g4 g5 g6 lw ln n1 ck', RF bk (dayS e s) g1 g2 g3 g4 g5 g6 → K (nI ((dayS e s).2.2.2.2.2 - s.2.2.2.2.2)) g1 g2 g3 g4 g5 g6 lw ln n1 ck' (nI (n + (eCl e).length)) (nI (dayS e s).2.2.2.2.2)) :
    wp_X2_work f1 z f3 f4 f5 f6 laws line n0 ck (nI n) (nI s.2.2.2.2.2) rfr rvo run rsa rtx cb cs (nI W) lp pb pl pt pp mh csk cd cwt cnm cmi cy crf co (nI C) (nI (eD e)) kn K := by
  have hX0 := hX
  obtain ⟨⟨hD, hW, hC, hnC, hl9⟩, hPW, hP', hb, hs, hs2, hG, hcl, hbk, hpap, hher, hco, hend⟩ := hX0
  have hP16 : ∀ w, P' w → w < W ∧ w < 16 := fun w hw => by
    rcases (hP' w).mp hw with q | q
    · have := hPW w q; omega
    · by_cases t : w < W
      · exact ⟨t, q.1⟩
      · exact absurd (by omega) (hs2 w (by omega) q.1)
  obtain ⟨F1, F3, F4, F5, F6⟩ := hF
  have back := backS_IV (e := e) hI 16
  have dawn := dawn_IV (P' := P') (fun w hw => by have := (hPW w hw).1; omega) hP' hI
  have dm := dawn_more (e := e) hI
  have loop : ∀ m i (g : Nat → Int32), i + m = 5 → (∀ j, j < i → g j = nI (eLw e j)) → wp_X2_work_b2 K f1 z f3 f4 f5 f6 line n0 ck (nI n) (nI s.2.2.2.2.2) rfr rvo run rsa rtx cb cs (nI W) lp pb pl pt pp mh csk cd cwt cnm cmi cy crf co (nI C) (nI (eD e)) kn (m + 1) g (nI i) := by
    intro m
    induction m with
    | zero =>
      intro i g hi hg
      have : i = 5 := by omega
      subst this
      rw [wp_X2_work_b2]
      refine pk_le 5 5 (fun _ => ?_) (fun q => by omega)
      refine back_c hI (fun w hw => (hPW w hw).1) hW (fun w hw => hb w (hPW w hw).1) (hg 0 (by omega)) (hl9 0 (by omega)) hG hD F1 F3 F4 (fun g1 g3 h1 h3 => ?_)
      refine sign_c (e := e) back.1.1 (fun w hw => hPW w ((back.1.2.1 w).mp hw)) hW hb (fun w hw => by obtain ⟨v, v1, v2, v3, -⟩ := hs w hw; exact ⟨v, v1, v2, v3⟩) (fun w w1 w2 q => hs2 w w1 w2 (by omega)) hD h1 (fun a1 a2 h1' => ⟨(eCl e).length + 1, ?_⟩)
      have hF2 : RF bk (dawnS e s) a1 a2 g3 f4 f5 f6 := by
        have b2 := back.2.1
        have b3 := back.2.2
        unfold dawnS
        generalize backS e 16 s = t at b2 b3 h1' h3 ⊢
        refine ⟨h1', h3, fun w hw hj => ?_, fun w hw => ?_, fun j hj => ?_⟩
        · show f4 w = nI (t.2.2.1 w)
          rw [b2]; exact F4 w hw (b3 w hj).1
        · show f5 w = t.2.2.2.1 w
          rw [b2]; exact F5 w hw
        · show f6 j = nI (t.2.2.2.2.1 j)
          rw [b2]; exact F6 j hj
      have := loop54_c (s0 := s.2.2.2.2.2) (K := K) hX hg (eCl e) [] (dawnS e s) a1 a2 g3 f4 f5 f6 line n0 ck rfl dawn (by rw [dm]; exact Nat.le_refl _) hF2 (fun b1 b3 b4 b5 b6 b7 b8 b9 h => hK _ _ _ _ _ _ _ _ _ _ h)
      rw [dm] at this
      exact this
    | succ m ih =>
      intro i g hi hg
      rw [wp_X2_work_b2]
      refine pk_le 5 i (fun q => by omega) (fun _ => hsaid i _ (by omega) ⟨vp_in_nI (by omega) (by omega), ?_⟩)
      rintro _ rfl
      rw [nI_1, nI_clamp (by omega)]
      refine ih (i + 1) _ (by omega) (fun j hj => ?_)
      by_cases c : j = i
      · subst c; rw [pk_us]
      · rw [pk_un c]; exact hg j (by omega)
  unfold wp_X2_work
  exact ⟨6, loop 5 0 laws (by omega) (fun j hj => by omega)⟩
