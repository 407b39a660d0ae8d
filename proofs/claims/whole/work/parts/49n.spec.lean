/-! a day's work as a function: the state (list, job, last day, refusals, notes, sent), what the day knows -/
abbrev FS := List Nat × (Nat → Nat) × (Nat → Nat) × (Nat → Int32) × (Nat → Nat) × Nat
abbrev EV := (Nat → Nat) × (Nat → Nat → Nat) × (Nat → Nat → Nat) × (Nat → Int32) × (Nat → Nat → Nat) × (Nat → Nat) × (Nat → Nat) × Nat × List Nat
def eLw (e : EV) : Nat → Nat := e.1
def eP (e : EV) : Nat → Nat → Nat := e.2.1
def eH (e : EV) : Nat → Nat → Nat := e.2.2.1
def eRf (e : EV) : Nat → Int32 := e.2.2.2.1
def eCf (e : EV) : Nat → Nat → Nat := e.2.2.2.2.1
def eBk (e : EV) : Nat → Nat := e.2.2.2.2.2.1
def eSg (e : EV) : Nat → Nat := e.2.2.2.2.2.2.1
def eD (e : EV) : Nat := e.2.2.2.2.2.2.2.1
def eCl (e : EV) : List Nat := e.2.2.2.2.2.2.2.2
def fsI : FS := ([], fun _ => 1000, fun _ => 0, fun _ => 0, fun _ => 0, 0)
def backStep (e : EV) (w : Nat) (s : FS) : FS :=
  if s.2.1 w ≠ 1000 ∧ s.2.2.1 w < eD e then ((if eLw e 0 < eCf e (s.2.1 w) 0 then mv s.1 w else s.1), ap s.2.1 w 1000, s.2.2) else s
def backS (e : EV) : Nat → FS → FS
  | 0, s => s
  | n + 1, s => backStep e n (backS e n s)
def signQ (e : EV) : Nat → List Nat → List Nat
  | 0, Q => Q
  | n + 1, Q => if eSg e n = eD e then mv (signQ e n Q) n else signQ e n Q
def limB (e : EV) (r : Int32) : Bool := decide (¬ nI (eLw e 1) ≤ 0 ∧ ¬ r < nI (eLw e 1))
def whyS (e : EV) (s : FS) (c w k : Nat) : Nat :=
  if s.2.1 w ≠ 1000 then 1 else if eP e c w = 0 then 2 else if eH e w k = 0 then 3 else if (eRf e c >>> (nI w &&& 31)) &&& 1 = 1 then 4 else 5
def askS (e : EV) (c w : Nat) (x : FS × Nat × Nat) : FS × Nat × Nat :=
  if whyS e x.1 c w x.2.1 = 4 then
    (if limB e (x.1.2.2.2.1 w + 1) = true then ((mv x.1.1 w, x.1.2.1, x.1.2.2.1, upd x.1.2.2.2.1 w 0, ap x.1.2.2.2.2.1 (16 * c + w) (8 * x.2.1 + 4), x.1.2.2.2.2.2), x.2.1 + eLw e 2, x.2.2)
     else ((x.1.1, x.1.2.1, x.1.2.2.1, upd x.1.2.2.2.1 w (x.1.2.2.2.1 w + 1), ap x.1.2.2.2.2.1 (16 * c + w) (8 * x.2.1 + 4), x.1.2.2.2.2.2), x.2.1 + eLw e 2, x.2.2))
  else if whyS e x.1 c w x.2.1 = 5 then ((x.1.1, ap x.1.2.1 w c, ap x.1.2.2.1 w (eD e + eCf e c 0 - 1), upd x.1.2.2.2.1 w 0, ap x.1.2.2.2.2.1 (16 * c + w) (8 * x.2.1 + 5), x.1.2.2.2.2.2 + 1), x.2.1, x.2.2 - 1)
  else ((x.1.1, x.1.2.1, x.1.2.2.1, x.1.2.2.2.1, ap x.1.2.2.2.2.1 (16 * c + w) (8 * x.2.1 + whyS e x.1 c w x.2.1), x.1.2.2.2.2.2), x.2.1, x.2.2)
def askL (e : EV) (c : Nat) : List Nat → FS × Nat × Nat → FS
  | [], x => x.1
  | w :: l, x => if x.2.2 = 0 then x.1 else askL e c l (askS e c w x)
def firstS (e : EV) (c : Nat) : Nat := if eLw e 4 = 1 then eCf e c 2 else 1000
def mostS (e : EV) : Nat := if eLw e 3 = 1 then 3 else 2
def rowsS (e : EV) (Q : List Nat) : List Nat := QB (eBk e) Q 0 ++ (QB (eBk e) Q 1 ++ (if mostS e = 3 then QB (eBk e) Q 2 else []))
def headS (e : EV) (c : Nat) : List Nat := if firstS e c ≠ 1000 ∧ eBk e (firstS e c) < mostS e then [firstS e c] else []
def lineQ (e : EV) (c : Nat) (Q : List Nat) : List Nat := headS e c ++ (rowsS e Q).filter (fun x => decide (x ≠ firstS e c))
def noteS (e : EV) (c : Nat) (n : Nat → Nat) : Nat → Nat := fun j => if j / 16 = c ∧ eSg e (j % 16) ≤ eD e then 6 else n j
def clS (e : EV) (s : FS) (c : Nat) : FS :=
  askL e c (lineQ e c s.1) ((s.1, s.2.1, s.2.2.1, s.2.2.2.1, noteS e c s.2.2.2.2.1, s.2.2.2.2.2), eCf e c 3, eCf e c 1)
def dawnS (e : EV) (s : FS) : FS := (signQ e 16 (backS e 16 s).1, (backS e 16 s).2)
def dayS (e : EV) (s : FS) : FS := (eCl e).foldl (clS e) (dawnS e s)
def iterS (E : Nat → EV) : Nat → FS
  | 0 => fsI
  | d + 1 => dayS (E d) (iterS E d)
/-- what holds of a state: who is on the lists (P), what calls are jobs (G), jobs end on lo - 1 or later -/
def IV (P G : Nat → Prop) (lo : Nat) (s : FS) : Prop :=
  s.1.Nodup ∧ (∀ w, w ∈ s.1 ↔ P w) ∧ (∀ w, s.2.1 w ≠ 1000 → P w ∧ G (s.2.1 w) ∧ lo ≤ s.2.2.1 w + 1 ∧ s.2.2.1 w < 200) ∧ (∀ j, s.2.2.2.2.1 j < 160000)
theorem IV_mono {P G G' : Nat → Prop} {lo lo' : Nat} {s : FS} (h : IV P G lo s) (hl : lo' ≤ lo) (hG : ∀ c, G c → G' c) : IV P G' lo' s :=
  ⟨h.1, h.2.1, fun w hw => ⟨(h.2.2.1 w hw).1, hG _ (h.2.2.1 w hw).2.1, by have := (h.2.2.1 w hw).2.2.1; omega, (h.2.2.1 w hw).2.2.2⟩, h.2.2.2⟩
theorem back_f {e : EV} {w : Nat} {s : FS} (h : ¬ (s.2.1 w ≠ 1000 ∧ s.2.2.1 w < eD e)) : backStep e w s = s := if_neg h
theorem back_t {e : EV} {w : Nat} {s : FS} (h : s.2.1 w ≠ 1000 ∧ s.2.2.1 w < eD e) : backStep e w s = ((if eLw e 0 < eCf e (s.2.1 w) 0 then mv s.1 w else s.1), ap s.2.1 w 1000, s.2.2) := if_pos h
theorem backStep_IV {P G : Nat → Prop} {lo w : Nat} {e : EV} {s : FS} (h : IV P G lo s) : IV P G lo (backStep e w s) ∧ (backStep e w s).2.2 = s.2.2 ∧ (∀ v, (backStep e w s).2.1 v ≠ 1000 → s.2.1 v ≠ 1000 ∧ (v = w → eD e ≤ s.2.2.1 v)) := by
  by_cases c : s.2.1 w ≠ 1000 ∧ s.2.2.1 w < eD e
  · rw [back_t c]
    have hw := (h.2.2.1 w c.1).1
    have key : ∀ v, ap s.2.1 w 1000 v ≠ 1000 → v ≠ w ∧ s.2.1 v ≠ 1000 := fun v hv => by
      by_cases q : v = w
      · rw [q, ap_s] at hv; exact absurd rfl hv
      · rw [ap_n q] at hv; exact ⟨q, hv⟩
    refine ⟨⟨?_, ?_, fun v hv => ?_, h.2.2.2⟩, rfl, fun v hv => ⟨(key v hv).2, fun q => absurd q (key v hv).1⟩⟩
    · show (if eLw e 0 < eCf e (s.2.1 w) 0 then mv s.1 w else s.1).Nodup
      split
      · exact mv_nodup h.1
      · exact h.1
    · intro v
      show v ∈ (if eLw e 0 < eCf e (s.2.1 w) 0 then mv s.1 w else s.1) ↔ P v
      split
      · rw [mv_mem, h.2.1]
        constructor
        · rintro (q | q)
          · rw [q]; exact hw
          · exact q
        · exact Or.inr
      · exact h.2.1 v
    · have k := key v hv
      have := h.2.2.1 v k.2
      refine ⟨this.1, ?_, this.2.2⟩
      show G (ap s.2.1 w 1000 v)
      rw [ap_n k.1]; exact this.2.1
  · rw [back_f c]
    refine ⟨h, rfl, fun v hv => ⟨hv, fun q => ?_⟩⟩
    subst q
    by_cases z : s.2.2.1 v < eD e
    · exact absurd ⟨hv, z⟩ c
    · omega
theorem backS_IV {P G : Nat → Prop} {lo : Nat} {e : EV} {s : FS} (h : IV P G lo s) : ∀ n, IV P G lo (backS e n s) ∧ (backS e n s).2.2 = s.2.2 ∧ (∀ v, (backS e n s).2.1 v ≠ 1000 → s.2.1 v ≠ 1000 ∧ (v < n → eD e ≤ s.2.2.1 v))
  | 0 => ⟨h, rfl, fun v hv => ⟨hv, fun q => by omega⟩⟩
  | n + 1 => by
    have ih := backS_IV (e := e) h n
    have st := backStep_IV (e := e) (w := n) ih.1
    rw [backS]
    refine ⟨st.1, by rw [st.2.1, ih.2.1], fun v hv => ?_⟩
    have a := st.2.2 v hv
    have b := ih.2.2 v a.1
    refine ⟨b.1, fun q => ?_⟩
    by_cases z : v = n
    · have := a.2 z
      rw [ih.2.1] at this
      exact this
    · exact b.2 (by omega)
theorem backS_IV16 {P G : Nat → Prop} {e : EV} {s : FS} (hP : ∀ w, P w → w < 16) (h : IV P G (eD e) s) : IV P G (eD e + 1) (backS e 16 s) := by
  have := backS_IV (e := e) h 16
  refine ⟨this.1.1, this.1.2.1, fun w hw => ?_, this.1.2.2.2⟩
  have a := this.1.2.2.1 w hw
  have b := (this.2.2 w hw).2 (hP w a.1)
  refine ⟨a.1, a.2.1, ?_, a.2.2.2⟩
  rw [this.2.1]; omega
theorem backS_stop {P G : Nat → Prop} {lo W : Nat} {e : EV} {s : FS} (h : IV P G lo s) (hW : ∀ w, P w → w < W) : ∀ k, backS e (W + k) s = backS e W s
  | 0 => rfl
  | k + 1 => by
    show backStep e (W + k) (backS e (W + k) s) = backS e W s
    rw [backS_stop h hW k]
    have := backS_IV (e := e) h W
    rw [back_f]
    rintro ⟨q, -⟩
    have := hW _ (this.1.2.2.1 _ q).1
    omega
theorem signQ_stop {W : Nat} {e : EV} {Q : List Nat} (h : ∀ w, W ≤ w → w < 16 → eSg e w ≠ eD e) : ∀ k, W + k ≤ 16 → signQ e (W + k) Q = signQ e W Q
  | 0, _ => rfl
  | k + 1, hk => by
    show (if eSg e (W + k) = eD e then mv (signQ e (W + k) Q) (W + k) else signQ e (W + k) Q) = signQ e W Q
    rw [if_neg (h (W + k) (by omega) (by omega)), signQ_stop h k (by omega)]
theorem signQ_ok {e : EV} {Q : List Nat} (hd : Q.Nodup) : ∀ n, (signQ e n Q).Nodup ∧ ∀ w, w ∈ signQ e n Q ↔ (w ∈ Q ∨ (w < n ∧ eSg e w = eD e))
  | 0 => ⟨hd, fun w => ⟨Or.inl, fun q => q.elim id (fun z => by omega)⟩⟩
  | n + 1 => by
    have ih := signQ_ok (e := e) hd n
    rw [signQ]
    by_cases c : eSg e n = eD e
    · rw [if_pos c]
      refine ⟨mv_nodup ih.1, fun w => ?_⟩
      rw [mv_mem, ih.2]
      constructor
      · rintro (q | q | q)
        · exact Or.inr ⟨by omega, by rw [q]; exact c⟩
        · exact Or.inl q
        · exact Or.inr ⟨by omega, q.2⟩
      · rintro (q | q)
        · exact Or.inr (Or.inl q)
        · by_cases z : w = n
          · exact Or.inl z
          · exact Or.inr (Or.inr ⟨by omega, q.2⟩)
    · rw [if_neg c]
      refine ⟨ih.1, fun w => ?_⟩
      rw [ih.2]
      constructor
      · rintro (q | q)
        · exact Or.inl q
        · exact Or.inr ⟨by omega, q.2⟩
      · rintro (q | q)
        · exact Or.inl q
        · by_cases z : w = n
          · rw [z] at q; exact absurd q.2 c
          · exact Or.inr ⟨by omega, q.2⟩
/-- after the dawn of a day: those signed up to that day are on the lists -/
theorem dawn_IV {P P' G : Nat → Prop} {e : EV} {s : FS} (hP : ∀ w, P w → w < 16) (hP' : ∀ w, P' w ↔ (P w ∨ (w < 16 ∧ eSg e w = eD e))) (h : IV P G (eD e) s) : IV P' G (eD e + 1) (dawnS e s) := by
  have a := backS_IV16 hP h
  have b := signQ_ok (e := e) a.1 16
  unfold dawnS
  generalize backS e 16 s = t at a b ⊢
  generalize signQ e 16 t.1 = Q at b ⊢
  refine ⟨b.1, fun w => ?_, fun w hw => ?_, a.2.2.2⟩
  · show w ∈ Q ↔ P' w
    rw [b.2, hP', a.2.1]
  · have := a.2.2.1 w hw
    exact ⟨(hP' w).mpr (Or.inl this.1), this.2⟩
