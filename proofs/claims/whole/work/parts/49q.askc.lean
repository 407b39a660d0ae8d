/-! one worker is come to: the spec's own facts, and the class -/
theorem whyS_lt {e : EV} {s : FS} {c w k : Nat} : 1 ≤ whyS e s c w k ∧ whyS e s c w k ≤ 5 := by
  unfold whyS
  split
  · omega
  · split
    · omega
    · split
      · omega
      · split <;> omega
theorem ask_4t {e : EV} {c w : Nat} {x : FS × Nat × Nat} (h : whyS e x.1 c w x.2.1 = 4) (hl : limB e (x.1.2.2.2.1 w + 1) = true) : askS e c w x = ((mv x.1.1 w, x.1.2.1, x.1.2.2.1, upd x.1.2.2.2.1 w 0, ap x.1.2.2.2.2.1 (16 * c + w) (8 * x.2.1 + 4), x.1.2.2.2.2.2), x.2.1 + eLw e 2, x.2.2) := by
  unfold askS; rw [if_pos h, if_pos hl]
theorem ask_4f {e : EV} {c w : Nat} {x : FS × Nat × Nat} (h : whyS e x.1 c w x.2.1 = 4) (hl : ¬ limB e (x.1.2.2.2.1 w + 1) = true) : askS e c w x = ((x.1.1, x.1.2.1, x.1.2.2.1, upd x.1.2.2.2.1 w (x.1.2.2.2.1 w + 1), ap x.1.2.2.2.2.1 (16 * c + w) (8 * x.2.1 + 4), x.1.2.2.2.2.2), x.2.1 + eLw e 2, x.2.2) := by
  unfold askS; rw [if_pos h, if_neg hl]
theorem ask_5 {e : EV} {c w : Nat} {x : FS × Nat × Nat} (h : whyS e x.1 c w x.2.1 = 5) : askS e c w x = ((x.1.1, ap x.1.2.1 w c, ap x.1.2.2.1 w (eD e + eCf e c 0 - 1), upd x.1.2.2.2.1 w 0, ap x.1.2.2.2.2.1 (16 * c + w) (8 * x.2.1 + 5), x.1.2.2.2.2.2 + 1), x.2.1, x.2.2 - 1) := by
  unfold askS; rw [if_neg (by omega), if_pos h]
theorem ask_o {e : EV} {c w : Nat} {x : FS × Nat × Nat} (h4 : whyS e x.1 c w x.2.1 ≠ 4) (h5 : whyS e x.1 c w x.2.1 ≠ 5) : askS e c w x = ((x.1.1, x.1.2.1, x.1.2.2.1, x.1.2.2.2.1, ap x.1.2.2.2.2.1 (16 * c + w) (8 * x.2.1 + whyS e x.1 c w x.2.1), x.1.2.2.2.2.2), x.2.1, x.2.2) := by
  unfold askS; rw [if_neg h4, if_neg h5]
theorem ap_lt {g : Nat → Nat} {n v B : Nat} (h : ∀ j, g j < B) (hv : v < B) : ∀ j, ap g n v j < B := fun j => by
  by_cases c : j = n
  · rw [c, ap_s]; exact hv
  · rw [ap_n c]; exact h j
theorem askS_IV {P G : Nat → Prop} {lo c w : Nat} {e : EV} {x : FS × Nat × Nat} (hI : IV P G lo x.1) (hw : P w) (hc : G c) (hk : x.2.1 < 19000) (hlo : lo ≤ eD e + 1) (hD : eD e < 100) (h1 : 1 ≤ eCf e c 0 ∧ eCf e c 0 ≤ 30) (h2 : eLw e 2 ≤ 999) : IV P G lo (askS e c w x).1 ∧ (askS e c w x).2.1 ≤ x.2.1 + 999 := by
  by_cases c4 : whyS e x.1 c w x.2.1 = 4
  · by_cases cl : limB e (x.1.2.2.2.1 w + 1) = true
    · rw [ask_4t c4 cl]
      refine ⟨⟨mv_nodup hI.1, fun v => ?_, hI.2.2.1, ap_lt hI.2.2.2 (by omega)⟩, by show x.2.1 + eLw e 2 ≤ _; omega⟩
      rw [mv_mem, hI.2.1]
      exact ⟨fun q => q.elim (fun z => by rw [z]; exact hw) id, Or.inr⟩
    · rw [ask_4f c4 cl]
      exact ⟨⟨hI.1, hI.2.1, hI.2.2.1, ap_lt hI.2.2.2 (by omega)⟩, by show x.2.1 + eLw e 2 ≤ _; omega⟩
  · by_cases c5 : whyS e x.1 c w x.2.1 = 5
    · rw [ask_5 c5]
      refine ⟨⟨hI.1, hI.2.1, fun v hv => ?_, ap_lt hI.2.2.2 (by omega)⟩, by show x.2.1 ≤ _; omega⟩
      show P v ∧ G (ap x.1.2.1 w c v) ∧ lo ≤ ap x.1.2.2.1 w (eD e + eCf e c 0 - 1) v + 1 ∧ ap x.1.2.2.1 w (eD e + eCf e c 0 - 1) v < 200
      by_cases z : v = w
      · subst z
        rw [ap_s, ap_s]
        exact ⟨hw, hc, by omega, by omega⟩
      · rw [ap_n z, ap_n z]
        have hv' : x.1.2.1 v ≠ 1000 := by
          have : ap x.1.2.1 w c v ≠ 1000 := hv
          rw [ap_n z] at this; exact this
        exact hI.2.2.1 v hv'
    · rw [ask_o c4 c5]
      have := whyS_lt (e := e) (s := x.1) (c := c) (w := w) (k := x.2.1)
      exact ⟨⟨hI.1, hI.2.1, hI.2.2.1, ap_lt hI.2.2.2 (by omega)⟩, by show x.2.1 ≤ _; omega⟩
theorem outc_c {e : EV} {s : FS} {c w k : Nat} {f3 lp pb pl pt mh csk crf : Nat → Int32} {pp : Int32} {K : Int32 → Prop} (hw : w < 16) (hc : c < 60) (hJ : f3 w = sv (s.2.1 w)) (hJ2 : s.2.1 w ≠ 1000 → s.2.1 w < 60) (hk : k < 20000)
    (hpap : ∀ K : Int32 → Prop, K (nI (eP e c w)) → wp_X1_hasPaper lp pb pl pt pp (nI w) (csk c) (nI (eD e)) K) (hp1 : eP e c w ≤ 1) (hher : ∀ m (K : Int32 → Prop), m < 20000 → K (nI (eH e w m)) → wp_X1_isHere mh (nI w) (nI (eD e)) (nI m) K) (hh1 : ∀ m, eH e w m ≤ 1) (hrf : crf c = eRf e c)
    (hK : K (nI (whyS e s c w k))) : wp_X2_outcomeFor f3 (nI k) lp pb pl pt pp mh csk crf (nI c) (nI w) (nI (eD e)) K := by
  unfold wp_X2_outcomeFor
  refine ⟨vp_in_nI hw (by omega), ?_⟩
  rw [nI_clamp (n := w) (by omega), hJ, nI_clamp (n := c) (by omega)]
  unfold whyS at hK
  by_cases c1 : s.2.1 w = 1000
  · rw [if_neg (by omega)] at hK
    rw [c1]
    refine br_t rfl ⟨vp_in_nI hc (by omega), hpap _ ?_⟩
    by_cases c2 : eP e c w = 0
    · rw [if_pos c2] at hK
      rw [c2]
      exact ⟨fun q => absurd rfl q, fun _ => hK⟩
    · rw [if_neg c2] at hK
      have : eP e c w = 1 := by omega
      rw [this]
      refine ⟨fun _ => hher k _ hk ?_, fun q => absurd q one0⟩
      have h1 := hh1 k
      by_cases c3 : eH e w k = 0
      · rw [if_pos c3] at hK
        rw [c3]
        exact ⟨fun q => absurd rfl q, fun _ => hK⟩
      · rw [if_neg c3] at hK
        have : eH e w k = 1 := by omega
        rw [this]
        refine ⟨fun _ => ?_, fun q => absurd q one0⟩
        unfold wp_X0_refuses
        refine ⟨vp_in_nI hc (by omega), ?_⟩
        rw [nI_clamp (n := c) (by omega), hrf]
        by_cases c4 : (eRf e c >>> (nI w &&& 31)) &&& 1 = 1
        · rw [if_pos c4] at hK
          exact ⟨fun q => absurd c4 q, fun _ => ⟨fun q => absurd q one0, fun _ => hK⟩⟩
        · rw [if_neg c4] at hK
          exact ⟨fun _ => ⟨fun _ => hK, fun q => absurd rfl q⟩, fun q => absurd q c4⟩
  · rw [if_pos c1] at hK
    rw [sv_ne c1]
    have := hJ2 c1
    exact br_f (ne_m1 (by omega)) hK
theorem note_ap {g : Nat → Nat} {f : Nat → Int32} {n v : Nat} {x : Int32} (h : ∀ j, j < 960 → f j = nI (g j)) (hx : x = nI v) : ∀ j, j < 960 → upd f n x j = nI (ap g n v j) := fun j hj => by
  by_cases c : j = n
  · subst c; rw [pk_us, ap_s, hx]
  · rw [pk_un c, ap_n c]; exact h j hj
theorem upd_ap {g f : Nat → Int32} {w : Nat} {x : Int32} (h : ∀ u, u < 16 → f u = g u) : ∀ u, u < 16 → upd f w x u = upd g w x u := fun u hu => by
  by_cases c : u = w
  · subst c; rw [pk_us, pk_us]
  · rw [pk_un c, pk_un c]; exact h u hu
theorem upd_upd {f : Nat → Int32} {w : Nat} {x y : Int32} : upd (upd f w x) w y = upd f w y := by
  funext u
  by_cases c : u = w
  · subst c; rw [pk_us, pk_us]
  · rw [pk_un c, pk_un c, pk_un c]
theorem ask_c {P G : Nat → Prop} {lo c w k l : Nat} {bk : Nat → Nat} {e : EV} {s : FS} {f1 z f3 f4 f5 f6 laws cb lp pb pl pt mh csk cd crf : Nat → Int32} {pp : Int32} {K : Int32 → (Nat → Int32) → (Nat → Int32) → (Nat → Int32) → (Nat → Int32) → (Nat → Int32) → Int32 → Int32 → Prop}
    (hI : IV P G lo s) (hP : ∀ w, P w → w < 16) (hG : ∀ c, G c → c < 60) (hw : P w) (hc : c < 60) (hk : k < 19000) (hlw : ∀ j, j < 5 → laws j = nI (eLw e j)) (hl9 : ∀ j, j < 5 → eLw e j ≤ 999) (hb : cb w = nI (bk w) ∧ bk w < 3)
    (hpap : ∀ K : Int32 → Prop, K (nI (eP e c w)) → wp_X1_hasPaper lp pb pl pt pp (nI w) (csk c) (nI (eD e)) K) (hp1 : eP e c w ≤ 1) (hher : ∀ m (K : Int32 → Prop), m < 20000 → K (nI (eH e w m)) → wp_X1_isHere mh (nI w) (nI (eD e)) (nI m) K) (hh1 : ∀ m, eH e w m ≤ 1) (hrf : crf c = eRf e c)
    (hcd : cd c = nI (eCf e c 0) ∧ 1 ≤ eCf e c 0 ∧ eCf e c 0 ≤ 30) (hD : eD e < 100) (hF : RF bk s f1 z f3 f4 f5 f6)
    (hK : ∀ g1 g3 g4 g5 g6, RF bk (askS e c w (s, k, l)).1 g1 z g3 g4 g5 g6 → K (nI (whyS e s c w k)) g1 g3 g4 g5 g6 (nI (askS e c w (s, k, l)).2.1) (nI (askS e c w (s, k, l)).1.2.2.2.2.2)) :
    wp_X2_ask f1 z f3 f4 f5 f6 laws (nI k) (nI s.2.2.2.2.2) cb lp pb pl pt pp mh csk cd crf (nI c) (nI w) (nI (eD e)) K := by
  have hw16 := hP w hw
  obtain ⟨F1, F3, F4, F5, F6⟩ := hF
  unfold wp_X2_ask
  refine outc_c hw16 hc (F3 w hw16) (fun q => hG _ (hI.2.2.1 w q).2.1) (by omega) hpap hp1 hher hh1 hrf ?_
  rintro _ rfl
  have ix : nI c * 16 + nI w = nI (16 * c + w) := by rw [show (16 : Int32) = nI 16 from rfl, pk_mul, nI_add, Nat.mul_comm]
  have yx : ∀ y, nI k * 8 + nI y = nI (8 * k + y) := fun y => by rw [show (8 : Int32) = nI 8 from rfl, pk_mul, nI_add, Nat.mul_comm]
  rw [ix]
  refine ⟨vp_in_nI (by omega) (by omega), ?_⟩
  rw [nI_clamp (n := 16 * c + w) (by omega), yx]
  have wl := whyS_lt (e := e) (s := s) (c := c) (w := w) (k := k)
  by_cases c4 : whyS e s c w k = 4
  · rw [c4] at hK ⊢
    refine ⟨fun q => absurd rfl q, fun _ => ?_⟩
    unfold wp_X2_takeRefusal
    refine ⟨vp_in_nI hw16 (by omega), ?_⟩
    rw [nI_clamp (n := w) (by omega), F5 w hw16]
    rintro _ rfl
    have l1 : laws ((1 : Int32).toNatClampNeg) = nI (eLw e 1) := hlw 1 (by omega)
    have l2 : laws ((2 : Int32).toNatClampNeg) = nI (eLw e 2) := hlw 2 (by omega)
    rw [l1]
    refine ⟨vp_in_nI hw16 (by omega), vp_in_nI (N := 5) (n := 1) (by omega) (by omega), ?_⟩
    have fin : ¬ limB e (s.2.2.2.1 w + 1) = true → wp_X2_takeRefusal_b46 (fun a10 a11 y12 => K 4 a10 f3 f4 a11 (upd f6 (16 * c + w) (nI (8 * k + 4))) y12 (nI s.2.2.2.2.2)) laws (nI k) f1 (upd f5 w (s.2.2.2.1 w + 1)) := by
      intro q
      unfold wp_X2_takeRefusal_b46
      refine ⟨vp_in_nI (N := 5) (n := 2) (by omega) (by omega), ?_⟩
      rintro _ rfl
      rw [l2, nI_add]
      have a := ask_4f (e := e) (c := c) (w := w) (x := (s, k, l)) c4 q
      rw [a] at hK
      exact hK _ _ _ _ _ ⟨F1, F3, F4, upd_ap F5, note_ap F6 rfl⟩
    refine ⟨fun q => fin (fun z => ?_), fun q => ⟨vp_in_nI hw16 (by omega), vp_in_nI (N := 5) (n := 1) (by omega) (by omega), ?_⟩⟩
    · unfold limB at z; rw [decide_eq_true_eq] at z; exact z.1 q
    · rw [pk_us]
      refine ⟨fun q2 => fin (fun z => ?_), fun q2 => ?_⟩
      · unfold limB at z; rw [decide_eq_true_eq] at z; exact z.2 q2
      · refine move_c F1 hI.1 (fun x hx => hP x ((hI.2.1 x).mp hx)) ((hI.2.1 w).mpr hw) hb.1 hb.2 (fun f' hf' => ⟨vp_in_nI hw16 (by omega), ?_⟩)
        have zl : limB e (s.2.2.2.1 w + 1) = true := by unfold limB; rw [decide_eq_true_eq]; exact ⟨q, q2⟩
        unfold wp_X2_takeRefusal_b46
        refine ⟨vp_in_nI (N := 5) (n := 2) (by omega) (by omega), ?_⟩
        rintro _ rfl
        rw [l2, nI_add, upd_upd]
        have a := ask_4t (e := e) (c := c) (w := w) (x := (s, k, l)) c4 zl
        rw [a] at hK
        exact hK _ _ _ _ _ ⟨hf', F3, F4, upd_ap F5, note_ap F6 rfl⟩
  · have n4 : ¬ nI (whyS e s c w k) = 4 := fun q => c4 ((nI_eq (by omega) (by omega)).mp (q.trans (show (4 : Int32) = nI 4 from rfl)))
    refine ⟨fun _ => ?_, fun q => absurd q n4⟩
    by_cases c5 : whyS e s c w k = 5
    · rw [c5] at hK ⊢
      refine ⟨fun q => absurd rfl q, fun _ => ?_⟩
      unfold wp_X2_send
      refine ⟨vp_in_nI hw16 (by omega), vp_in_nI hc (by omega), ?_⟩
      rw [nI_clamp (n := c) (by omega), nI_clamp (n := w) (by omega), hcd.1, nI_add]
      rintro _ rfl
      refine ⟨vp_in_nI hw16 (by omega), vp_in_nI hw16 (by omega), ?_⟩
      rintro _ rfl
      rw [nI_1, show (1 : Int32) = nI 1 from rfl, pk_sub (by omega)]
      have a := ask_5 (e := e) (c := c) (w := w) (x := (s, k, l)) c5
      rw [a] at hK
      refine hK _ _ _ _ _ ⟨F1, sv_ap F3 (by rw [sv_ne (by omega)]), fun u hu hu2 => ?_, upd_ap F5, note_ap F6 rfl⟩
      show upd f4 w (nI (eD e + eCf e c 0 - 1)) u = nI (ap s.2.2.1 w (eD e + eCf e c 0 - 1) u)
      by_cases q : u = w
      · subst q; rw [pk_us, ap_s]
      · rw [pk_un q, ap_n q]
        refine F4 u hu ?_
        have : ap s.2.1 w c u ≠ 1000 := hu2
        rw [ap_n q] at this; exact this
    · have n5 : ¬ nI (whyS e s c w k) = 5 := fun q => c5 ((nI_eq (by omega) (by omega)).mp (q.trans (show (5 : Int32) = nI 5 from rfl)))
      refine ⟨fun _ => ?_, fun q => absurd q n5⟩
      have a := ask_o (e := e) (c := c) (w := w) (x := (s, k, l)) c4 c5
      rw [a] at hK
      exact hK _ _ _ _ _ ⟨F1, F3, F4, F5, note_ap F6 rfl⟩
