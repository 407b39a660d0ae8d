/-! what a day's knowledge is, by the data -/
def PD (W : Nat) (sg : Nat → Nat) (D : Nat) (w : Nat) : Prop := w < W ∧ sg w < D
def GD (C : Nat) (cY : Nat → Nat) (D : Nat) (c : Nat) : Prop := c < C ∧ cY c < D
def isN (C : Nat) (cY : Nat → Nat) (D n : Nat) : Prop := n ≤ C ∧ (∀ k, k < n → cY k < D) ∧ ∀ k, n ≤ k → k < C → D ≤ cY k
theorem isN_uni {C D n m : Nat} {cY : Nat → Nat} (h : isN C cY D n) (g : isN C cY D m) : n = m := by
  rcases Nat.lt_trichotomy n m with c | c | c
  · have a := g.2.1 n c
    have b := h.2.2 n (Nat.le_refl _) (by have := g.1; omega)
    omega
  · exact c
  · have a := h.2.1 m c
    have b := g.2.2 m (Nat.le_refl _) (by have := h.1; omega)
    omega
theorem isN_ex {C D : Nat} {cY : Nat → Nat} (hm : ∀ i j, i ≤ j → j < C → cY i ≤ cY j) : ∃ n, isN C cY D n := by
  obtain ⟨n, h1, h2⟩ := pk_least (fun k => k = C ∨ (k < C ∧ D ≤ cY k)) ⟨C, Or.inl rfl⟩
  have hn : n ≤ C := by omega
  refine ⟨n, hn, fun k hk => ?_, fun k h3 h4 => ?_⟩
  · have := h2 k hk
    by_cases c : cY k < D
    · exact c
    · exact absurd (Or.inr ⟨by omega, by omega⟩) this
  · rcases h1 with q | q
    · omega
    · have := hm n k h3 h4; omega
theorem isN_mono {C D D' n m : Nat} {cY : Nat → Nat} (h : isN C cY D n) (g : isN C cY D' m) (hD : D ≤ D') : n ≤ m := by
  by_cases c : n ≤ m
  · exact c
  · have a := h.2.1 m (by omega)
    have b := g.2.2 m (Nat.le_refl _) (by have := h.1; omega)
    omega
theorem isN_call {C D d n : Nat} {cY : Nat → Nat} (h : isN C cY D n) (hd : D ≤ d) : isN (C + 1) (ap cY C d) D n := by
  have := h.1
  refine ⟨by omega, fun k hk => ?_, fun k h1 h2 => ?_⟩
  · rw [ap_n (by omega)]; exact h.2.1 k hk
  · by_cases c : k = C
    · rw [c, ap_s]; exact hd
    · rw [ap_n c]; exact h.2.2 k h1 (by omega)
def MT (D kn : Nat) (W : Nat) (bk sg : Nat → Nat) (T : Nat) (tF tV tU : Nat → Nat) (tS : Nat → Nat → Nat) (Pn : Nat) (pW pS pT pL : Nat → Nat) (hn : Nat) (hW hD hF hT : Nat → Nat) (C : Nat) (cs cn cw cN cm cY ord : Nat → Nat) (rf : Nat → Int32) (e : EV) : Prop :=
  eD e = D ∧ (∀ j, j < 5 → eLw e j = lawS T tF tV tU tS j D kn) ∧ (∀ w, w < W → ((eSg e w = D ↔ sg w = D) ∧ (eSg e w ≤ D ↔ sg w ≤ D))) ∧ (∀ w, W ≤ w → w < 16 → ¬ eSg e w ≤ D) ∧ (∀ w, w < W → sg w ≤ D → eBk e w = bk w)
  ∧ (∀ c w, c < C → cY c = D → w < W → sg w ≤ D → eP e c w = hasN (fun k => 8 * pW k + pS k) pT pL (8 * w + cs c) D Pn) ∧ (∀ w m, w < W → sg w ≤ D → eH e w m = hereN (fun k => 100 * hW k + hD k) hF hT (100 * w + D) m hn)
  ∧ (∀ c, c < C → cY c = D → eRf e c = rf c ∧ eCf e c 1 = cw c ∧ eCf e c 2 = cN c ∧ eCf e c 3 = cm c) ∧ (∀ c, c < C → cY c ≤ D → eCf e c 0 = cn c)
  ∧ ∃ n l, isN C cY D n ∧ isN C cY (D + 1) (n + l) ∧ eCl e = (List.range l).map (fun i => ord (n + i))
theorem MT_mk {D kn : Nat} {W : Nat} {bk sg : Nat → Nat} {T : Nat} {tF tV tU : Nat → Nat} {tS : Nat → Nat → Nat} {Pn : Nat} {pW pS pT pL : Nat → Nat} {hn : Nat} {hW hD hF hT : Nat → Nat} {C : Nat} {cs cn cw cN cm cY ord : Nat → Nat} {rf : Nat → Int32} (ho : ∀ i j, i ≤ j → j < C → cY i ≤ cY j) (hD9 : D < 1000) : ∃ e, MT D kn W bk sg T tF tV tU tS Pn pW pS pT pL hn hW hD hF hT C cs cn cw cN cm cY ord rf e := by
  obtain ⟨n, hn2⟩ := isN_ex (D := D) ho
  obtain ⟨m, hm⟩ := isN_ex (D := D + 1) ho
  have nm := isN_mono hn2 hm (by omega)
  refine ⟨(fun j => lawS T tF tV tU tS j D kn, fun c w => hasN (fun k => 8 * pW k + pS k) pT pL (8 * w + cs c) D Pn, fun w mi => hereN (fun k => 100 * hW k + hD k) hF hT (100 * w + D) mi hn, rf, fun c j => if j = 0 then cn c else if j = 1 then cw c else if j = 2 then cN c else cm c, bk, fun w => if w < W then sg w else 1000, D, (List.range (m - n)).map (fun i => ord (n + i))), rfl, fun j _ => rfl, fun w hw => ?_, fun w h1 _ => ?_, fun w _ _ => rfl, fun c w _ _ _ _ => rfl, fun w mi _ _ => rfl, fun c _ _ => ⟨rfl, rfl, rfl, rfl⟩, fun c _ _ => rfl, n, m - n, hn2, ?_, rfl⟩
  · show ((if w < W then sg w else 1000) = D ↔ _) ∧ ((if w < W then sg w else 1000) ≤ D ↔ _)
    rw [if_pos hw]
    exact ⟨Iff.rfl, Iff.rfl⟩
  · show ¬ (if w < W then sg w else 1000) ≤ D
    rw [if_neg (by omega)]; omega
  · rw [show n + (m - n) = m from by omega]; exact hm
theorem lawF_congr {tF tV tU tF' tV' tU' : Nat → Nat} {tS tS' : Nat → Nat → Nat} {key day known : Nat} : ∀ n : Nat, (∀ t, t < n → (cnt tF tV tU tS key day known t ↔ cnt tF' tV' tU' tS' key day known t) ∧ tF t = tF' t) → lawF tF tV tU tS key day known n = lawF tF' tV' tU' tS' key day known n
  | 0, _ => rfl
  | n + 1, h => by
    have ih := lawF_congr n (fun t ht => h t (by omega))
    have hn := h n (by omega)
    have bnd := @lawF_lt tF tV tU tS key day known n
    by_cases c : cnt tF tV tU tS key day known n ∧ ∀ q, lawF tF tV tU tS key day known n = some q → tF q ≤ tF n
    · rw [lawF_t c.1 c.2, lawF_t (hn.1.mp c.1) (fun q hq => by
        rw [← ih] at hq
        have a := c.2 q hq
        rw [(h q (by have := bnd hq; omega)).2, hn.2] at a
        exact a)]
    · rw [lawF_f c, lawF_f (fun c' => c ⟨hn.1.mpr c'.1, fun q hq => by
        have a := c'.2 q (by rw [← ih]; exact hq)
        rw [(h q (by have := bnd hq; omega)).2, hn.2]
        exact a⟩)]
      exact ih
theorem lawS_congr {tF tV tU tF' tV' tU' : Nat → Nat} {tS tS' : Nat → Nat → Nat} {key day known T : Nat} (h : ∀ t, t < T → (cnt tF tV tU tS key day known t ↔ cnt tF' tV' tU' tS' key day known t) ∧ tF t = tF' t ∧ tS t key = tS' t key) : lawS T tF tV tU tS key day known = lawS T tF' tV' tU' tS' key day known := by
  unfold lawS
  rw [← lawF_congr T (fun t ht => ⟨(h t ht).1, (h t ht).2.1⟩)]
  cases e : lawF tF tV tU tS key day known T with
  | none => rfl
  | some t => exact (h t (lawF_lt e).1).2.2
theorem hasN_congr {pK pT pL pK' pT' pL' : Nat → Nat} {q day : Nat} : ∀ n, (∀ k, k < n → pK k = pK' k ∧ pT k = pT' k ∧ pL k = pL' k) → hasN pK pT pL q day n = hasN pK' pT' pL' q day n
  | 0, _ => rfl
  | n + 1, h => by
    have a := h n (by omega)
    rw [hasN, hasN, a.1, a.2.1, a.2.2, hasN_congr n (fun k hk => h k (by omega))]
theorem hereN_congr {hK hF hT hK' hF' hT' : Nat → Nat} {q mi : Nat} : ∀ n, (∀ k, k < n → hK k = hK' k ∧ hF k = hF' k ∧ hT k = hT' k) → hereN hK hF hT q mi n = hereN hK' hF' hT' q mi n
  | 0, _ => rfl
  | n + 1, h => by
    have a := h n (by omega)
    rw [hereN, hereN, a.1, a.2.1, a.2.2, hereN_congr n (fun k hk => h k (by omega))]
theorem MT_worker {D kn d b : Nat} {W : Nat} {bk sg : Nat → Nat} {T : Nat} {tF tV tU : Nat → Nat} {tS : Nat → Nat → Nat} {Pn : Nat} {pW pS pT pL : Nat → Nat} {hn : Nat} {hW hD hF hT : Nat → Nat} {C : Nat} {cs cn cw cN cm cY ord : Nat → Nat} {rf : Nat → Int32} {e : EV} (h : MT D kn W bk sg T tF tV tU tS Pn pW pS pT pL hn hW hD hF hT C cs cn cw cN cm cY ord rf e) (hD9 : D < d) (hW16 : W < 16) : MT D kn (W + 1) (ap bk W b) (ap sg W d) T tF tV tU tS Pn pW pS pT pL hn hW hD hF hT C cs cn cw cN cm cY ord rf e := by
  obtain ⟨a1, a2, a3, a4, a5, a6, a7, a8, a9, a10⟩ := h
  have ne : ∀ w, w < W + 1 → ap sg W d w ≤ D → w < W ∧ sg w ≤ D := fun w hw h => by
    by_cases c : w = W
    · rw [c, ap_s] at h; omega
    · rw [ap_n c] at h; exact ⟨by omega, h⟩
  refine ⟨a1, a2, fun w hw => ?_, fun w h1 h2 => a4 w (by omega) h2, fun w hw hs => ?_, fun c w hc hy hw hs => ?_, fun w m hw hs => ?_, a8, a9, a10⟩
  · by_cases c : w = W
    · rw [c, ap_s]
      have := a4 W (Nat.le_refl _) hW16
      exact ⟨⟨fun q => by omega, fun q => by omega⟩, ⟨fun q => absurd q this, fun q => by omega⟩⟩
    · rw [ap_n c]; exact a3 w (by omega)
  · have := ne w hw hs
    rw [ap_n (by omega)]; exact a5 w this.1 this.2
  · have := ne w hw hs
    exact a6 c w hc hy this.1 this.2
  · have := ne w hw hs
    exact a7 w m this.1 this.2
theorem MT_paper {D kn d x1 x2 x3 : Nat} {W : Nat} {bk sg : Nat → Nat} {T : Nat} {tF tV tU : Nat → Nat} {tS : Nat → Nat → Nat} {Pn : Nat} {pW pS pT pL : Nat → Nat} {hn : Nat} {hW hD hF hT : Nat → Nat} {C : Nat} {cs cn cw cN cm cY ord : Nat → Nat} {rf : Nat → Int32} {e : EV} (h : MT D kn W bk sg T tF tV tU tS Pn pW pS pT pL hn hW hD hF hT C cs cn cw cN cm cY ord rf e) (hD' : D < d) : MT D kn W bk sg T tF tV tU tS (Pn + 1) (ap pW Pn x1) (ap pS Pn x2) (ap pT Pn d) (ap pL Pn x3) hn hW hD hF hT C cs cn cw cN cm cY ord rf e := by
  obtain ⟨a1, a2, a3, a4, a5, a6, a7, a8, a9, a10⟩ := h
  refine ⟨a1, a2, a3, a4, a5, fun c w hc hy hw hs => ?_, a7, a8, a9, a10⟩
  rw [a6 c w hc hy hw hs, hasN, if_neg (fun q => by have := q.2; rw [ap_s] at this; omega)]
  exact hasN_congr Pn (fun k hk => by rw [ap_n (by omega), ap_n (by omega), ap_n (by omega), ap_n (by omega)]; exact ⟨rfl, rfl, rfl⟩)
theorem MT_here {D kn x1 x2 x3 x4 : Nat} {W : Nat} {bk sg : Nat → Nat} {T : Nat} {tF tV tU : Nat → Nat} {tS : Nat → Nat → Nat} {Pn : Nat} {pW pS pT pL : Nat → Nat} {hn : Nat} {hW hD hF hT : Nat → Nat} {C : Nat} {cs cn cw cN cm cY ord : Nat → Nat} {rf : Nat → Int32} {e : EV} (h : MT D kn W bk sg T tF tV tU tS Pn pW pS pT pL hn hW hD hF hT C cs cn cw cN cm cY ord rf e) (hD' : D < x2) (h2 : x2 < 100) : MT D kn W bk sg T tF tV tU tS Pn pW pS pT pL (hn + 1) (ap hW hn x1) (ap hD hn x2) (ap hF hn x3) (ap hT hn x4) C cs cn cw cN cm cY ord rf e := by
  obtain ⟨a1, a2, a3, a4, a5, a6, a7, a8, a9, a10⟩ := h
  refine ⟨a1, a2, a3, a4, a5, a6, fun w m hw hs => ?_, a8, a9, a10⟩
  rw [a7 w m hw hs, hereN, if_neg (fun q => by rw [ap_s, ap_s] at q; omega)]
  exact hereN_congr hn (fun k hk => by rw [ap_n (by omega), ap_n (by omega), ap_n (by omega), ap_n (by omega)]; exact ⟨rfl, rfl, rfl⟩)
theorem MT_call {D kn d x x1 x2 x3 x4 x5 : Nat} {W : Nat} {bk sg : Nat → Nat} {T : Nat} {tF tV tU : Nat → Nat} {tS : Nat → Nat → Nat} {Pn : Nat} {pW pS pT pL : Nat → Nat} {hn : Nat} {hW hD hF hT : Nat → Nat} {C : Nat} {cs cn cw cN cm cY ord : Nat → Nat} {rf rf' : Nat → Int32} {e : EV} (h : MT D kn W bk sg T tF tV tU tS Pn pW pS pT pL hn hW hD hF hT C cs cn cw cN cm cY ord rf e) (hD' : D < d) (hx : ∀ i, i < C → cY i < d → i < x) (hrf : ∀ k, k < C → rf' k = rf k) : MT D kn W bk sg T tF tV tU tS Pn pW pS pT pL hn hW hD hF hT (C + 1) (ap cs C x1) (ap cn C x2) (ap cw C x3) (ap cN C x4) (ap cm C x5) (ap cY C d) (ins ord x C) rf' e := by
  obtain ⟨a1, a2, a3, a4, a5, a6, a7, a8, a9, n, l, b1, b2, b3⟩ := h
  have ne : ∀ c, c < C + 1 → ap cY C d c ≤ D → c < C ∧ cY c ≤ D := fun c hc h => by
    by_cases q : c = C
    · rw [q, ap_s] at h; omega
    · rw [ap_n q] at h; exact ⟨by omega, h⟩
  refine ⟨a1, a2, a3, a4, a5, fun c w hc hy hw hs => ?_, a7, fun c hc hy => ?_, fun c hc hy => ?_, n, l, isN_call b1 (by omega), isN_call b2 (by omega), ?_⟩
  · have := ne c hc (by omega)
    rw [ap_n (by omega)] at hy
    rw [ap_n (by omega)]
    exact a6 c w this.1 hy hw hs
  · have := ne c hc (by omega)
    rw [ap_n (by omega)] at hy
    rw [ap_n (by omega), ap_n (by omega), ap_n (by omega), hrf c this.1]
    exact a8 c this.1 hy
  · have := ne c hc hy
    rw [ap_n (by omega)]
    exact a9 c this.1 this.2
  · rw [b3]
    refine List.map_congr_left (fun i hi => ?_)
    rw [List.mem_range] at hi
    have := b2.2.1 (n + i) (by omega)
    have := b2.1
    rw [ins_lt (hx (n + i) (by omega) (by omega))]
theorem MT_refuse {D kn d c : Nat} {v : Int32} {W : Nat} {bk sg : Nat → Nat} {T : Nat} {tF tV tU : Nat → Nat} {tS : Nat → Nat → Nat} {Pn : Nat} {pW pS pT pL : Nat → Nat} {hn : Nat} {hW hD hF hT : Nat → Nat} {C : Nat} {cs cn cw cN cm cY ord : Nat → Nat} {rf : Nat → Int32} {e : EV} (h : MT D kn W bk sg T tF tV tU tS Pn pW pS pT pL hn hW hD hF hT C cs cn cw cN cm cY ord rf e) (hD' : D < d) (hc : cY c = d) : MT D kn W bk sg T tF tV tU tS Pn pW pS pT pL hn hW hD hF hT C cs cn cw cN cm cY ord (upd rf c v) e := by
  obtain ⟨a1, a2, a3, a4, a5, a6, a7, a8, a9, a10⟩ := h
  refine ⟨a1, a2, a3, a4, a5, a6, a7, fun c' hc' hy => ?_, a9, a10⟩
  rw [pk_un (fun q => by rw [q] at hy; omega)]
  exact a8 c' hc' hy
theorem MT_vote {D kn d fr : Nat} {sy : Nat → Nat} {W : Nat} {bk sg : Nat → Nat} {T : Nat} {tF tV tU : Nat → Nat} {tS : Nat → Nat → Nat} {Pn : Nat} {pW pS pT pL : Nat → Nat} {hn : Nat} {hW hD hF hT : Nat → Nat} {C : Nat} {cs cn cw cN cm cY ord : Nat → Nat} {rf : Nat → Int32} {e : EV} (h : MT D kn W bk sg T tF tV tU tS Pn pW pS pT pL hn hW hD hF hT C cs cn cw cN cm cY ord rf e) (hD' : kn < d) : MT D kn W bk sg (T + 1) (ap tF T fr) (ap tV T d) (ap tU T 1000) (fun t k => if t = T then sy k else tS t k) Pn pW pS pT pL hn hW hD hF hT C cs cn cw cN cm cY ord rf e := by
  obtain ⟨a1, a2, a3, a4, a5, a6, a7, a8, a9, a10⟩ := h
  refine ⟨a1, fun j hj => ?_, a3, a4, a5, a6, a7, a8, a9, a10⟩
  rw [a2 j hj]
  have key : lawS T tF tV tU tS j D kn = lawS T (ap tF T fr) (ap tV T d) (ap tU T 1000) (fun t k => if t = T then sy k else tS t k) j D kn := lawS_congr (fun t ht => by
    have ne : t ≠ T := by omega
    unfold cnt
    rw [ap_n ne, ap_n ne, ap_n ne]
    show (tS t j ≠ 1000 ∧ _ ↔ (if t = T then sy j else tS t j) ≠ 1000 ∧ _) ∧ _ ∧ tS t j = (if t = T then sy j else tS t j)
    rw [if_neg ne]
    exact ⟨Iff.rfl, rfl, rfl⟩)
  rw [key]
  unfold lawS
  rw [lawF_f (n := T) (fun q => by have := q.1.2.2.1; rw [ap_s] at this; omega)]
theorem MT_undo {D kn d t : Nat} {W : Nat} {bk sg : Nat → Nat} {T : Nat} {tF tV tU : Nat → Nat} {tS : Nat → Nat → Nat} {Pn : Nat} {pW pS pT pL : Nat → Nat} {hn : Nat} {hW hD hF hT : Nat → Nat} {C : Nat} {cs cn cw cN cm cY ord : Nat → Nat} {rf : Nat → Int32} {e : EV} (h : MT D kn W bk sg T tF tV tU tS Pn pW pS pT pL hn hW hD hF hT C cs cn cw cN cm cY ord rf e) (hD' : kn < d) (hd : d < 1000) (ht : tU t = 1000) : MT D kn W bk sg T tF tV (ap tU t d) tS Pn pW pS pT pL hn hW hD hF hT C cs cn cw cN cm cY ord rf e := by
  obtain ⟨a1, a2, a3, a4, a5, a6, a7, a8, a9, a10⟩ := h
  refine ⟨a1, fun j hj => ?_, a3, a4, a5, a6, a7, a8, a9, a10⟩
  rw [a2 j hj]
  refine lawS_congr (fun t' ht' => ⟨?_, rfl, rfl⟩)
  unfold cnt
  by_cases c : t' = t
  · subst c
    rw [ap_s, ht]
    exact ⟨fun q => ⟨q.1, q.2.1, q.2.2.1, hD'⟩, fun q => ⟨q.1, q.2.1, q.2.2.1, by omega⟩⟩
  · rw [ap_n c]
