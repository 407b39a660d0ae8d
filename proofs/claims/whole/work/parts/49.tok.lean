/-! one token, both sides: kind (the class's code), start, next place, value -/
noncomputable def tokP (tb : Nat → Nat) (N p : Nat) : Nat × Nat × Nat × Nat :=
  match Classical.propDecidable (p < N), Classical.propDecidable (isL (tb p)), Classical.propDecidable (isD (tb p)) with
  | .isFalse _, _, _ => (0, p, p, 0)
  | .isTrue _, .isTrue _, _ => match wF tb p (scS isL tb N (N - p) p) 6 with
    | some k => (1, p, scS isL tb N (N - p) p, k)
    | none => (4, p, scS isL tb N (N - p) p, 0)
  | .isTrue _, .isFalse _, .isTrue _ => (2, p, (numS tb N (N - p) p 0).1, (numS tb N (N - p) p 0).2)
  | .isTrue _, .isFalse _, .isFalse _ => if tb p = 59 then (3, p, p + 1, 0) else (4, p, p + 1, 0)
noncomputable def tokS (tb : Nat → Nat) (N i : Nat) : Nat × Nat × Nat × Nat := tokP tb N (scS isB tb N (N - i) i)
theorem tokP_end {tb : Nat → Nat} {N p : Nat} (h : ¬ p < N) : tokP tb N p = (0, p, p, 0) := by
  unfold tokP
  split <;> first | rfl | contradiction
theorem tokP_word {tb : Nat → Nat} {N p k : Nat} (h : p < N) (hl : isL (tb p)) (hw : wF tb p (scS isL tb N (N - p) p) 6 = some k) : tokP tb N p = (1, p, scS isL tb N (N - p) p, k) := by
  unfold tokP
  split <;> first | contradiction | (rw [hw])
theorem tokP_bad {tb : Nat → Nat} {N p : Nat} (h : p < N) (hl : isL (tb p)) (hw : wF tb p (scS isL tb N (N - p) p) 6 = none) : tokP tb N p = (4, p, scS isL tb N (N - p) p, 0) := by
  unfold tokP
  split <;> first | contradiction | (rw [hw])
theorem tokP_num {tb : Nat → Nat} {N p : Nat} (h : p < N) (hl : ¬ isL (tb p)) (hd : isD (tb p)) : tokP tb N p = (2, p, (numS tb N (N - p) p 0).1, (numS tb N (N - p) p 0).2) := by
  unfold tokP
  split <;> first | rfl | contradiction
theorem tokP_semi {tb : Nat → Nat} {N p : Nat} (h : p < N) (hl : ¬ isL (tb p)) (hd : ¬ isD (tb p)) (hs : tb p = 59) : tokP tb N p = (3, p, p + 1, 0) := by
  unfold tokP
  split <;> first | contradiction | (rw [if_pos hs])
theorem tokP_oth {tb : Nat → Nat} {N p : Nat} (h : p < N) (hl : ¬ isL (tb p)) (hd : ¬ isD (tb p)) (hs : ¬ tb p = 59) : tokP tb N p = (4, p, p + 1, 0) := by
  unfold tokP
  split <;> first | contradiction | (rw [if_neg hs])
def rkd (k : Nat) : Nat := [3, 0, 1, 2, 4].getD k 4
def TokC (t : Nat × Nat × Nat × Nat) (pl kd st v : Int32) : Prop := pl = nI t.2.2.1 ∧ kd = nI t.1 ∧ st = nI t.2.1 ∧ ((t.1 = 1 ∨ t.1 = 2) → v = nI t.2.2.2)
def TokR (t : Nat × Nat × Nat × Nat) (at_ pl so v : Int32) : Prop := at_ = nI t.2.2.1 ∧ pl = nI t.2.1 ∧ so = nI (rkd t.1) ∧ ((t.1 = 1 ∨ t.1 = 2) → v = nI t.2.2.2)
theorem tok_c {L N i : Nat} {tb : Nat → Nat} {f g : Nat → Int32} {kd st v : Int32} {K : Int32 → Int32 → Int32 → Int32 → Prop} (hR : R_text L N tb f g) (hi : i ≤ N) (hK : ∀ a b c d, TokC (tokS tb N i) a b c d → K a b c d) : wp_X3_nextToken (nI N) (nI i) kd st v f (nI L) K := by
  unfold wp_X3_nextToken
  refine ⟨N - i + 1, blanks_c hR (N - i) i (by omega) ?_⟩
  unfold tokS at hK
  have hp : scS isB tb N (N - i) i ≤ N := scS_le (by omega)
  generalize scS isB tb N (N - i) i = p at hK hp ⊢
  refine token_c hR hp (fun h => hK _ _ _ _ ?_) (fun h hl => ?_) (fun h hd => hK _ _ _ _ ?_) (fun h hs => hK _ _ _ _ ?_) (fun h hl hd hs => hK _ _ _ _ ?_)
  · rw [tokP_end (by omega)]; exact ⟨rfl, rfl, rfl, fun q => by omega⟩
  · cases e : wF tb p (scS isL tb N (N - p) p) 6 with
    | none => refine hK _ _ _ _ ?_; rw [tokP_bad h hl e]; exact ⟨rfl, rfl, rfl, fun q => by omega⟩
    | some k => refine hK _ _ _ _ ?_; rw [tokP_word h hl e]; exact ⟨rfl, rfl, rfl, fun _ => rfl⟩
  · rw [tokP_num h (fun q => by unfold isL at q; unfold isD at hd; omega) hd]; exact ⟨rfl, rfl, rfl, fun _ => rfl⟩
  · rw [tokP_semi h (fun q => by unfold isL at q; omega) (fun q => by unfold isD at q; omega) hs]; exact ⟨rfl, rfl, rfl, fun q => by omega⟩
  · rw [tokP_oth h hl hd hs]; exact ⟨rfl, rfl, rfl, fun q => by omega⟩
theorem tok_r {L N i : Nat} {tb : Nat → Nat} {f g : Nat → Int32} {pl so v : Int32} {K : Int32 → Int32 → Int32 → Int32 → Prop} (hR : R_text L N tb f g) (hi : i ≤ N) (hK : ∀ a b c d, TokR (tokS tb N i) a b c d → K a b c d) : wp_X8_next g (nI N) (nI i) pl so v K := by
  unfold wp_X8_next
  unfold tokS at hK
  have hp : scS isB tb N (N - i) i ≤ N := scS_le (by omega)
  refine ⟨N - i + 1, next_r hR (N - i) i _ (by omega) rfl ?_ ?_ ?_ ?_ ?_ ?_⟩ <;> generalize scS isB tb N (N - i) i = p at hK hp ⊢
  · intro h; refine hK _ _ _ _ ?_; rw [tokP_end (by omega)]; exact ⟨rfl, rfl, rfl, fun q => by omega⟩
  · intro h hl k e _; refine hK _ _ _ _ ?_; rw [tokP_word h hl e]; exact ⟨rfl, rfl, rfl, fun _ => rfl⟩
  · intro h hl e; refine hK _ _ _ _ ?_; rw [tokP_bad h hl e]; exact ⟨rfl, rfl, rfl, fun q => by omega⟩
  · intro h hd; refine hK _ _ _ _ ?_; rw [tokP_num h (fun q => by unfold isL at q; unfold isD at hd; omega) hd]; exact ⟨rfl, rfl, rfl, fun _ => rfl⟩
  · intro h hs; refine hK _ _ _ _ ?_; rw [tokP_semi h (fun q => by unfold isL at q; omega) (fun q => by unfold isD at q; omega) hs]; exact ⟨rfl, rfl, rfl, fun q => by omega⟩
  · intro h hl hd hs; refine hK _ _ _ _ ?_; rw [tokP_oth h hl hd hs]; exact ⟨rfl, rfl, rfl, fun q => by omega⟩
