/-! a call worked: the reference -/
theorem b_one : ∀ i, i < 32 → bt 1 i = decide (i = 0) := by decide +kernel
theorem bit1 {y : Int32} : y &&& 1 = 1 ↔ bt y 0 = true := by
  constructor
  · intro h
    have := congrArg (fun t => bt t 0) h
    simp only [b_and, b_one 0 (by omega)] at this
    simpa using this
  · intro h
    refine b_ext (fun i hi => ?_)
    rw [b_and, b_one i hi]
    by_cases c : i = 0
    · subst c; rw [h]; rfl
    · simp [c]
theorem bitv {x : Int32} {v : Nat} (hv : v < 16) : (x >>> (nI v &&& 31)) &&& 1 = 1 ↔ bt x v = true := by
  rw [bit1, b_sshr v (by omega) x (by omega), if_pos (by omega), Nat.add_zero]
theorem bit_or {x : Int32} {v w : Nat} (hv : v < 16) (hw : w < 16) : ((x ||| (1 <<< (nI w &&& 31))) >>> (nI v &&& 31)) &&& 1 = 1 ↔ (v = w ∨ (x >>> (nI v &&& 31)) &&& 1 = 1) := by
  rw [bitv hv, bitv hv, b_or, b_shl w (by omega) 1 (by omega)]
  by_cases c : w ≤ v
  · rw [b_one (v - w) (by omega)]
    by_cases c2 : v = w
    · subst c2; simp
    · simp [c, c2, show ¬ v - w = 0 from by omega]
  · simp [c, show ¬ v = w from by omega]
theorem bit_0 {v : Nat} (hv : v < 16) : ¬ ((0 : Int32) >>> (nI v &&& 31)) &&& 1 = 1 := by
  rw [bitv hv, b_0]; simp
def askD (e : EV) (c : Nat) : List Nat → List Nat → FS × Nat × Nat → FS
  | [], _, x => x.1
  | w :: l, D, x => if x.2.2 = 0 then x.1 else if w ∈ D then askD e c l D x else askD e c l (w :: D) (askS e c w x)
theorem askL_0 {e : EV} {c : Nat} {x : FS × Nat × Nat} (h : x.2.2 = 0) : ∀ l, askL e c l x = x.1
  | [] => rfl
  | w :: l => by rw [askL, if_pos h]
theorem askD_eq {e : EV} {c fi : Nat} : ∀ (l D : List Nat) (x : FS × Nat × Nat), l.Nodup → (∀ w, w ∈ l → (w ∈ D ↔ w = fi)) → askD e c l D x = askL e c (l.filter (fun v => decide (v ≠ fi))) x
  | [], D, x, _, _ => rfl
  | w :: l, D, x, hd, hD => by
    rw [List.nodup_cons] at hd
    rw [askD]
    by_cases z : x.2.2 = 0
    · rw [if_pos z, askL_0 z]
    · rw [if_neg z]
      by_cases q : w = fi
      · rw [if_pos ((hD w List.mem_cons_self).mpr q), List.filter_cons_of_neg (by simp [q])]
        exact askD_eq l D x hd.2 (fun v hv => hD v (List.mem_cons_of_mem _ hv))
      · rw [if_neg (fun t => q ((hD w List.mem_cons_self).mp t)), List.filter_cons_of_pos (by simp [q]), askL, if_neg z]
        refine askD_eq l (w :: D) (askS e c w x) hd.2 (fun v hv => ?_)
        rw [List.mem_cons, hD v (List.mem_cons_of_mem _ hv)]
        constructor
        · rintro (t | t)
          · rw [t] at hv; exact absurd hv hd.1
          · exact t
        · exact Or.inr
theorem askD_line {e : EV} {c : Nat} {Q : List Nat} {x : FS × Nat × Nat} (hd : Q.Nodup) (hQ : ∀ w, w ∈ Q → w < 16) : askD e c (headS e c ++ rowsS e Q) [] x = askL e c (lineQ e c Q) x := by
  have r := rowsR_ok (bk := eBk e) hd (mostS e) 0
  rw [← rowsS_R] at r
  unfold lineQ
  by_cases q : firstS e c ≠ 1000 ∧ eBk e (firstS e c) < mostS e
  · have h : headS e c = [firstS e c] := if_pos q
    rw [h]
    show askD e c (firstS e c :: rowsS e Q) [] x = askL e c (firstS e c :: (rowsS e Q).filter (fun v => decide (v ≠ firstS e c))) x
    rw [askD, askL]
    by_cases z : x.2.2 = 0
    · rw [if_pos z, if_pos z]
    · rw [if_neg z, if_neg z, if_neg List.not_mem_nil]
      exact askD_eq _ _ _ r.1 (fun w hw => by rw [List.mem_singleton])
  · have h : headS e c = [] := if_neg q
    rw [h, List.nil_append, List.nil_append]
    refine askD_eq _ _ _ r.1 (fun w hw => ⟨fun t => absurd t List.not_mem_nil, fun t => ?_⟩)
    exfalso
    rw [t, r.2] at hw
    by_cases t1 : firstS e c = 1000
    · have := hQ _ hw.1; omega
    · exact q ⟨t1, by omega⟩
