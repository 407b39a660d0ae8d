/-! one worker is come to: the reference -/
theorem wm_ap {g : Nat → Nat} {wy mi : Nat → Int32} {n k y : Nat} (hy : 1 ≤ y ∧ y ≤ 5) (h : ∀ j, j < 960 → wy j = nI (g j % 8) ∧ mi j = mnI (g j)) : ∀ j, j < 960 → upd wy n (nI y) j = nI (ap g n (8 * k + y) j % 8) ∧ upd mi n (nI k) j = mnI (ap g n (8 * k + y) j) := fun j hj => by
  by_cases c : j = n
  · subst c
    rw [pk_us, pk_us, ap_s]
    refine ⟨by rw [show (8 * k + y) % 8 = y from by omega], ?_⟩
    unfold mnI
    rw [if_neg (by omega), show (8 * k + y) / 8 = k from by omega]
  · rw [pk_un c, pk_un c, ap_n c]; exact h j hj
theorem on_j {bk dy : Nat → Nat} {s : FS} {row many on jl jd jc rf wy mi : Nat → Int32} {e : EV} {c w : Nat} {v : Int32} (hc : dy c = eCf e c 0) (hL : ∀ u, u < 16 → s.2.1 u ≠ 1000 → jl u = nI (s.2.2.1 u) ∧ jd u = nI (dy (s.2.1 u))) :
    ∀ u, u < 16 → ap s.2.1 w c u ≠ 1000 → upd jl w (nI (eD e + eCf e c 0 - 1)) u = nI (ap s.2.2.1 w (eD e + eCf e c 0 - 1) u) ∧ upd jd w (nI (eCf e c 0)) u = nI (dy (ap s.2.1 w c u)) := fun u hu hu2 => by
  by_cases q : u = w
  · subst q; rw [pk_us, pk_us, ap_s, ap_s, hc]; exact ⟨rfl, rfl⟩
  · rw [pk_un q, pk_un q, ap_n q, ap_n q]
    rw [ap_n q] at hu2
    exact hL u hu hu2
theorem comes_r {P G : Nat → Prop} {lo c w k l sb : Nat} {bk dy : Nat → Nat} {e : EV} {s : FS} {row many on jl jd jc rf wy mi to fd ud vs cb pw ps pt pl hw_ hd_ hf_ ht_ csk cd crf : Nat → Int32} {tx kn pp hh : Int32}
    {K : (Nat → Int32) → (Nat → Int32) → (Nat → Int32) → (Nat → Int32) → (Nat → Int32) → (Nat → Int32) → (Nat → Int32) → (Nat → Int32) → (Nat → Int32) → Int32 → Int32 → Int32 → Prop}
    (hI : IV P G lo s) (hP : ∀ w, P w → w < 16) (hw : P w) (hc : c < 60) (hk : k < 19000) (hl : 1 ≤ l) (hl2 : l ≤ 9) (hsb : sb ≤ s.2.2.2.2.2)
    (hlaw : ∀ j (K : Int32 → Prop), j < 5 → K (nI (eLw e j)) → wp_X8_lawOf to fd ud vs tx (nI j) (nI (eD e)) kn K) (hb : cb w = nI (bk w) ∧ bk w < 3)
    (hpap : ∀ K : Int32 → Prop, K (nI (eP e c w)) → wp_X8_hasPaper pw ps pt pl pp (nI w) (csk c) (nI (eD e)) K) (hp1 : eP e c w ≤ 1) (hher : ∀ m (K : Int32 → Prop), m < 20000 → K (nI (eH e w m)) → wp_X8_isHere hw_ hd_ hf_ ht_ hh (nI w) (nI (eD e)) (nI m) K) (hh1 : ∀ m, eH e w m ≤ 1) (hrf : crf c = eRf e c)
    (hcd : cd c = nI (eCf e c 0) ∧ 1 ≤ eCf e c 0 ∧ eCf e c 0 ≤ 30) (hdy : dy c = eCf e c 0) (hD : eD e < 100) (hM : RM bk dy s row many on jl jd jc rf wy mi)
    (hK : ∀ g1 g2 g3 g4 g5 g6 g7 g8 g9, RM bk dy (askS e c w (s, k, l)).1 g1 g2 g3 g4 g5 g6 g7 g8 g9 → K g1 g2 g3 g4 g5 g6 g7 g8 g9 (nI ((askS e c w (s, k, l)).1.2.2.2.2.2 - sb)) (nI (askS e c w (s, k, l)).2.1) (nI (askS e c w (s, k, l)).2.2)) :
    wp_X8_comesTo to fd ud vs tx cb pw ps pt pl pp hw_ hd_ hf_ ht_ hh csk cd crf row many on jl jd jc rf wy mi (nI (s.2.2.2.2.2 - sb)) (nI k) (nI l) (nI c) (nI w) (nI (eD e)) kn K := by
  have hw16 := hP w hw
  obtain ⟨M1, M2, M3, M4, M5, M6⟩ := hM
  have ix : (16 : Int32) * nI c + nI w = nI (16 * c + w) := by rw [show (16 : Int32) = nI 16 from rfl, pk_mul, nI_add]
  have wl := whyS_lt (e := e) (s := s) (c := c) (w := w) (k := k)
  have fin : wp_X8_comesTo_b93 K to fd ud vs tx cb cd row many on jl jd jc rf wy (nI (s.2.2.2.2.2 - sb)) (nI k) (nI l) (nI c) (nI w) (nI (eD e)) kn (upd mi (16 * c + w) (nI k)) (nI (whyS e s c w k)) := by
    unfold wp_X8_comesTo_b93
    rw [ix]
    refine ⟨vp_in_nI (by omega) (by omega), ?_⟩
    rw [nI_clamp (n := 16 * c + w) (by omega), nI_clamp (n := w) (by omega), nI_clamp (n := c) (by omega)]
    by_cases c4 : whyS e s c w k = 4
    · rw [c4]
      refine ⟨fun q => absurd rfl q, fun _ => ⟨vp_in_nI hw16 (by omega), ?_⟩⟩
      rw [M5 w hw16]
      rintro _ rfl
      refine ⟨vp_in_nI hw16 (by omega), hlaw 1 _ (by omega) ?_⟩
      have fin2 : ¬ limB e (s.2.2.2.1 w + 1) = true → wp_X8_comesTo_b160 K to fd ud vs tx on jl jd jc (nI (s.2.2.2.2.2 - sb)) (nI k) (nI l) (nI (eD e)) kn row many (upd rf w (s.2.2.2.1 w + 1)) (upd wy (16 * c + w) (nI 4)) (upd mi (16 * c + w) (nI k)) := by
        intro q
        unfold wp_X8_comesTo_b160
        refine hlaw 2 _ (by omega) ?_
        rintro _ rfl
        rw [nI_add]
        have a := ask_4f (e := e) (c := c) (w := w) (x := (s, k, l)) c4 q
        rw [a] at hK
        exact hK _ _ _ _ _ _ _ _ _ ⟨M1, M2, M3, M4, upd_ap M5, wm_ap (by omega) M6⟩
      refine ⟨fun q => fin2 (fun z => ?_), fun q => ⟨vp_in_nI hw16 (by omega), ?_⟩⟩
      · unfold limB at z; rw [decide_eq_true_eq] at z; exact z.1 q
      · rw [pk_us]
        refine ⟨fun q2 => fin2 (fun z => ?_), fun q2 => ?_⟩
        · unfold limB at z; rw [decide_eq_true_eq] at z; exact z.2 q2
        · refine end_r M1 hI.1 (fun x hx => hP x ((hI.2.1 x).mp hx)) hw16 hb.1 hb.2 (fun f' z' hf' => ⟨vp_in_nI hw16 (by omega), ?_⟩)
          have zl : limB e (s.2.2.2.1 w + 1) = true := by unfold limB; rw [decide_eq_true_eq]; exact ⟨q, q2⟩
          unfold wp_X8_comesTo_b160
          refine hlaw 2 _ (by omega) ?_
          rintro _ rfl
          rw [nI_add, upd_upd]
          have a := ask_4t (e := e) (c := c) (w := w) (x := (s, k, l)) c4 zl
          rw [a] at hK
          exact hK _ _ _ _ _ _ _ _ _ ⟨hf', M2, M3, M4, upd_ap M5, wm_ap (by omega) M6⟩
    · have n4 : ¬ nI (whyS e s c w k) = 4 := fun q => c4 ((nI_eq (by omega) (by omega)).mp (q.trans (show (4 : Int32) = nI 4 from rfl)))
      refine ⟨fun _ => ?_, fun q => absurd q n4⟩
      by_cases c5 : whyS e s c w k = 5
      · rw [c5]
        refine ⟨fun q => absurd rfl q, fun _ => ⟨vp_in_nI hw16 (by omega), vp_in_nI hc (by omega), ?_⟩⟩
        rw [hcd.1, nI_add]
        rintro _ rfl
        refine ⟨vp_in_nI hw16 (by omega), vp_in_nI hc (by omega), ?_⟩
        rintro _ rfl
        refine ⟨vp_in_nI hw16 (by omega), vp_in_nI hw16 (by omega), vp_in_nI hw16 (by omega), ?_⟩
        rintro _ rfl _ rfl
        rw [nI_1, show (1 : Int32) = nI 1 from rfl, pk_sub (by omega), pk_sub hl, show vp_nar .boolean (nI 1) = 1 from nar1]
        have a := ask_5 (e := e) (c := c) (w := w) (x := (s, k, l)) c5
        rw [a] at hK
        have e1 : s.2.2.2.2.2 - sb + 1 = s.2.2.2.2.2 + 1 - sb := by omega
        rw [e1]
        exact hK _ _ _ _ _ _ _ _ _ ⟨M1, on_ap M2 (by rw [onI_f (by omega)]), on_j (bk := bk) (row := row) (many := many) (on := on) (jc := jc) (rf := rf) (wy := wy) (mi := mi) (v := 0) hdy M3, sv_ap M4 (by rw [sv_ne (by omega)]), upd_ap M5, wm_ap (by omega) M6⟩
      · have n5 : ¬ nI (whyS e s c w k) = 5 := fun q => c5 ((nI_eq (by omega) (by omega)).mp (q.trans (show (5 : Int32) = nI 5 from rfl)))
        refine ⟨fun _ => ?_, fun q => absurd q n5⟩
        have a := ask_o (e := e) (c := c) (w := w) (x := (s, k, l)) c4 c5
        rw [a] at hK
        exact hK _ _ _ _ _ _ _ _ _ ⟨M1, M2, M3, M4, M5, wm_ap wl M6⟩
  unfold wp_X8_comesTo
  rw [ix]
  refine ⟨vp_in_nI (by omega) (by omega), vp_in_nI hw16 (by omega), ?_⟩
  rw [nI_clamp (n := 16 * c + w) (by omega), nI_clamp (n := w) (by omega), nI_clamp (n := c) (by omega), M2 w hw16]
  unfold whyS at fin
  by_cases c1 : s.2.1 w = 1000
  · rw [if_neg (by omega)] at fin
    rw [c1, onI_t]
    refine br_t rfl ⟨vp_in_nI hc (by omega), hpap _ ?_⟩
    by_cases c2 : eP e c w = 0
    · rw [if_pos c2] at fin
      rw [c2]
      exact ⟨fun q => absurd rfl q, fun _ => fin⟩
    · rw [if_neg c2] at fin
      have : eP e c w = 1 := by omega
      rw [this]
      refine ⟨fun _ => hher k _ (by omega) ?_, fun q => absurd q one0⟩
      have h1 := hh1 k
      by_cases c3 : eH e w k = 0
      · rw [if_pos c3] at fin
        rw [c3]
        exact ⟨fun q => absurd rfl q, fun _ => fin⟩
      · rw [if_neg c3] at fin
        have : eH e w k = 1 := by omega
        rw [this]
        refine ⟨fun _ => ⟨vp_in_nI hc (by omega), ?_⟩, fun q => absurd q one0⟩
        rw [hrf]
        by_cases c4 : (eRf e c >>> (nI w &&& 31)) &&& 1 = 1
        · rw [if_pos c4] at fin
          exact ⟨fun q => absurd c4 q, fun _ => fin⟩
        · rw [if_neg c4] at fin
          exact ⟨fun _ => fin, fun q => absurd q c4⟩
  · rw [if_pos c1] at fin
    rw [onI_f c1]
    exact br_f one0 fin
