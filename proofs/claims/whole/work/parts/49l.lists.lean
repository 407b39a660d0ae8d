/-! lists, and rows that hold them -/
def mv (Q : List Nat) (w : Nat) : List Nat := Q.filter (fun x => decide (x ≠ w)) ++ [w]
def QB (bk : Nat → Nat) (Q : List Nat) (b : Nat) : List Nat := Q.filter (fun x => decide (bk x = b))
theorem mv_mem {Q : List Nat} {w x : Nat} : x ∈ mv Q w ↔ x = w ∨ x ∈ Q := by
  unfold mv
  simp only [List.mem_append, List.mem_filter, List.mem_singleton, decide_eq_true_eq]
  constructor
  · rintro (h | h)
    · exact Or.inr h.1
    · exact Or.inl h
  · rintro (h | h)
    · exact Or.inr h
    · by_cases c : x = w
      · exact Or.inr c
      · exact Or.inl ⟨h, c⟩
theorem mv_nodup {Q : List Nat} {w : Nat} (h : Q.Nodup) : (mv Q w).Nodup := by
  unfold mv
  rw [List.nodup_append]
  refine ⟨List.Pairwise.filter _ h, by simp, fun a ha b hb => ?_⟩
  rw [List.mem_singleton] at hb
  rw [List.mem_filter, decide_eq_true_eq] at ha
  rw [hb]; exact ha.2
theorem filter_id {Q : List Nat} {w : Nat} (h : w ∉ Q) : Q.filter (fun x => decide (x ≠ w)) = Q := by
  rw [List.filter_eq_self]
  intro a ha
  rw [decide_eq_true_eq]
  exact fun e => h (e ▸ ha)
theorem mv_new {Q : List Nat} {w : Nat} (h : w ∉ Q) : mv Q w = Q ++ [w] := by unfold mv; rw [filter_id h]
theorem QB_mem {bk : Nat → Nat} {Q : List Nat} {b x : Nat} : x ∈ QB bk Q b ↔ x ∈ Q ∧ bk x = b := by
  unfold QB; rw [List.mem_filter, decide_eq_true_eq]
theorem QB_nodup {bk : Nat → Nat} {Q : List Nat} {b : Nat} (h : Q.Nodup) : (QB bk Q b).Nodup := List.Pairwise.filter _ h
theorem QB_mv_s {bk : Nat → Nat} {Q : List Nat} {w : Nat} : QB bk (mv Q w) (bk w) = mv (QB bk Q (bk w)) w := by
  unfold QB mv
  rw [List.filter_append, List.filter_filter, List.filter_filter]
  congr 1
  · congr 1
    funext x
    rw [Bool.and_comm]
  · simp
theorem QB_mv_o {bk : Nat → Nat} {Q : List Nat} {w b : Nat} (h : b ≠ bk w) : QB bk (mv Q w) b = QB bk Q b := by
  unfold QB mv
  rw [List.filter_append, List.filter_filter]
  have e : List.filter (fun x => decide (bk x = b)) [w] = [] := by
    rw [List.filter_eq_nil_iff]
    intro a ha
    rw [List.mem_singleton] at ha
    rw [ha, decide_eq_true_eq]
    exact fun q => h q.symm
  rw [e, List.append_nil]
  congr 1
  funext x
  by_cases c : bk x = b
  · have : x ≠ w := fun q => h (by rw [← q, c])
    simp [c, this]
  · simp [c]
theorem nodup_len : ∀ {n : Nat} {l : List Nat}, l.Nodup → (∀ x, x ∈ l → x < n) → l.length ≤ n
  | 0, [], _, _ => Nat.le_refl _
  | 0, x :: l, _, h => by have := h x List.mem_cons_self; omega
  | n + 1, l, hd, h => by
    have h1 : (l.filter (fun x => decide (x ≠ n))).length ≤ n := nodup_len (List.Pairwise.filter _ hd) (fun x hx => by
      rw [List.mem_filter, decide_eq_true_eq] at hx
      have := h x hx.1
      omega)
    have h2 : l.length ≤ (l.filter (fun x => decide (x ≠ n))).length + 1 := by
      clear h1 h
      induction l with
      | nil => simp
      | cons a l ih =>
        rw [List.nodup_cons] at hd
        by_cases c : a = n
        · subst c
          rw [List.filter_cons_of_neg (by simp), filter_id hd.1]
          simp
        · rw [List.filter_cons_of_pos (by simp [c])]
          have := ih hd.2
          simp only [List.length_cons]
          omega
    omega
/-- a row holds a list from place o on -/
def RwL (f : Nat → Int32) : Nat → List Nat → Prop
  | _, [] => True
  | o, v :: l => f o = nI v ∧ RwL f (o + 1) l
theorem RwL_app {f : Nat → Int32} : ∀ {o : Nat} {a b : List Nat}, RwL f o (a ++ b) ↔ RwL f o a ∧ RwL f (o + a.length) b
  | o, [], b => by simp [RwL]
  | o, x :: a, b => by
    show f o = nI x ∧ RwL f (o + 1) (a ++ b) ↔ (f o = nI x ∧ RwL f (o + 1) a) ∧ RwL f (o + (a.length + 1)) b
    rw [RwL_app (a := a), show o + 1 + a.length = o + (a.length + 1) from by omega, and_assoc]
theorem RwL_congr {f g : Nat → Int32} : ∀ {o : Nat} {l : List Nat}, (∀ k, o ≤ k → k < o + l.length → g k = f k) → RwL f o l → RwL g o l
  | _, [], _, _ => trivial
  | o, x :: l, h, hl => by
    refine ⟨?_, RwL_congr (fun k h1 h2 => h k (by omega) (by simp only [List.length_cons]; omega)) hl.2⟩
    rw [h o (by omega) (by simp only [List.length_cons]; omega)]
    exact hl.1
theorem RwL_upd {f : Nat → Int32} {o k : Nat} {l : List Nat} {v : Int32} (h : k < o ∨ o + l.length ≤ k) (hl : RwL f o l) : RwL (upd f k v) o l :=
  RwL_congr (fun j h1 h2 => pk_un (by omega)) hl
def R_rows (bk : Nat → Nat) (Q : List Nat) (f z : Nat → Int32) : Prop := ∀ b, b < 3 → z b = nI (QB bk Q b).length ∧ RwL f (16 * b) (QB bk Q b)
theorem filter_split {a b : List Nat} {w : Nat} (ha : w ∉ a) (hb : w ∉ b) : mv (a ++ w :: b) w = a ++ b ++ [w] := by
  unfold mv
  rw [List.filter_append, filter_id ha, List.filter_cons_of_neg (by simp), filter_id hb]
/-! the class's moveToEnd -/
theorem past_c {o w E : Nat} {K : (Nat → Int32) → Prop} (hw : w < 16) (hE : E ≤ 48) : ∀ (suf g : List Nat) (f : Nat → Int32), o + g.length + 1 + suf.length = E → w ∉ suf → (∀ x, x ∈ suf → x < 16) → RwL f o g → RwL f (o + g.length + 1) suf →
    (∀ f', RwL f' o (g ++ suf ++ [w]) → (∀ k, k < o ∨ E ≤ k → f' k = f k) → K f') → wp_X2_moveToEnd_b31 K (nI w) (suf.length + 1) f (nI E) 1 (nI (o + g.length + 1)) := by
  intro suf
  induction suf with
  | nil =>
    intro g f hl hws hx hg hs hK
    rw [List.length_nil] at hl
    rw [wp_X2_moveToEnd_b31]
    refine pk_le E (o + g.length + 1) (fun _ => ⟨fun q => absurd q (by decide), fun _ => ?_⟩) (fun q => by omega)
    have e1 : nI E - 1 = nI (o + g.length) := by rw [show (1 : Int32) = nI 1 from rfl, pk_sub (by omega)]; congr 1; omega
    rw [e1]
    refine ⟨vp_in_nI (by omega) (by omega), ?_⟩
    rw [nI_clamp (by omega)]
    refine hK _ ?_ (fun k hk => pk_un (by omega))
    rw [List.append_nil, RwL_app]
    exact ⟨RwL_upd (Or.inr (Nat.le_refl _)) hg, pk_us, trivial⟩
  | cons x suf ih =>
    intro g f hl hws hx hg hs hK
    rw [List.length_cons] at hl
    rw [wp_X2_moveToEnd_b31]
    refine pk_le E (o + g.length + 1) (fun q => by omega) (fun _ => ⟨fun q => absurd q (by decide), fun _ => ⟨vp_in_nI (by omega) (by omega), ?_⟩⟩)
    rintro _ rfl
    have e1 : nI (o + g.length + 1) - 1 = nI (o + g.length) := by rw [show (1 : Int32) = nI 1 from rfl, pk_sub (by omega)]; congr 1
    rw [e1]
    refine ⟨vp_in_nI (by omega) (by omega), ?_⟩
    rw [nI_clamp (by omega), nI_clamp (by omega), hs.1]
    unfold wp_X2_moveToEnd_b58
    refine ⟨fun _ => ?_, fun q => absurd q (by decide)⟩
    rintro _ rfl
    rw [nI_1]
    have e2 : o + g.length + 1 + 1 = o + (g ++ [x]).length + 1 := by simp; omega
    rw [e2]
    refine ih (g ++ [x]) _ (by simp; omega) (fun q => hws (List.mem_cons_of_mem _ q)) (fun y hy => hx y (List.mem_cons_of_mem _ hy)) ?_ ?_ (fun f' h1 h2 => hK f' ?_ (fun k hk => ?_))
    · rw [RwL_app]; exact ⟨RwL_upd (Or.inr (Nat.le_refl _)) hg, pk_us, trivial⟩
    · have := hs.2
      have e3 : o + (g ++ [x]).length + 1 = o + g.length + 1 + 1 := by simp; omega
      rw [e3]
      exact RwL_upd (Or.inl (by omega)) this
    · have : g ++ [x] ++ suf ++ [w] = g ++ x :: suf ++ [w] := by simp
      rw [← this]; exact h1
    · rw [h2 k hk, pk_un (by omega)]
theorem seek_c {o w E : Nat} {K : (Nat → Int32) → Prop} (hw : w < 16) (hE : E ≤ 48) : ∀ (suf pre : List Nat) (f : Nat → Int32), o + pre.length + suf.length = E → w ∉ pre → w ∈ suf → suf.Nodup → (∀ x, x ∈ suf → x < 16) → RwL f o (pre ++ suf) →
    (∀ f', RwL f' o (mv (pre ++ suf) w) → (∀ k, k < o ∨ E ≤ k → f' k = f k) → K f') → wp_X2_moveToEnd_b31 K (nI w) (suf.length + 1) f (nI E) 0 (nI (o + pre.length)) := by
  intro suf
  induction suf with
  | nil => intro pre f _ _ h; cases h
  | cons x suf ih =>
    intro pre f hl hp hm hd hx hf hK
    rw [List.length_cons] at hl
    rw [wp_X2_moveToEnd_b31]
    rw [RwL_app] at hf
    have hx0 := hx x List.mem_cons_self
    rw [List.nodup_cons] at hd
    refine pk_le E (o + pre.length) (fun q => by omega) (fun _ => ⟨fun _ => ?_, fun q => absurd rfl q⟩)
    unfold wp_X2_moveToEnd_b58
    refine ⟨fun q => absurd rfl q, fun _ => ⟨vp_in_nI (by omega) (by omega), ?_⟩⟩
    rw [nI_clamp (by omega), hf.2.1]
    have := pk_eq (x := nI x) (y := nI w) (A := ∀ (y6 : Int32), y6 = nI (o + pre.length) + 1 → wp_X2_moveToEnd_b31 K (nI w) (suf.length + 1) f (nI E) 1 y6) (B := ∀ (y5 : Int32), y5 = nI (o + pre.length) + 1 → wp_X2_moveToEnd_b31 K (nI w) (suf.length + 1) f (nI E) 0 y5) x w ?_ ?_
    · exact ⟨this.2, this.1⟩
    · intro e
      subst e
      rintro _ rfl
      rw [nI_1]
      refine past_c hw hE suf pre f (by omega) hd.1 (fun y hy => hx y (List.mem_cons_of_mem _ hy)) hf.1 hf.2.2 (fun f' h1 h2 => hK f' ?_ h2)
      rw [filter_split hp hd.1]; exact h1
    · intro e
      rintro _ rfl
      rw [nI_1]
      have e2 : o + pre.length + 1 = o + (pre ++ [x]).length := by simp; omega
      have e3 : pre ++ x :: suf = pre ++ [x] ++ suf := by simp
      rw [e2]
      refine ih (pre ++ [x]) f (by simp; omega) (fun q => ?_) (List.mem_of_ne_of_mem (fun q => e q.symm) hm) hd.2 (fun y hy => hx y (List.mem_cons_of_mem _ hy)) ?_ (fun f' h1 h2 => hK f' (by rw [e3]; exact h1) h2)
      · rw [List.mem_append, List.mem_singleton] at q
        rcases q with q | q
        · exact hp q
        · exact e q.symm
      · rw [← e3, RwL_app]; exact hf
theorem mv_len {l : List Nat} {w : Nat} (hm : w ∈ l) (hd : l.Nodup) : (mv l w).length = l.length := by
  obtain ⟨a, b, rfl⟩ := List.append_of_mem hm
  rw [List.nodup_append] at hd
  have hb := hd.2.1
  rw [List.nodup_cons] at hb
  rw [filter_split (fun q => hd.2.2 w q w List.mem_cons_self rfl) hb.1]
  simp
theorem move_c {bk : Nat → Nat} {Q : List Nat} {w : Nat} {f z cb : Nat → Int32} {K : (Nat → Int32) → Prop} (hR : R_rows bk Q f z) (hd : Q.Nodup) (hQ : ∀ x, x ∈ Q → x < 16) (hm : w ∈ Q) (hb : cb w = nI (bk w)) (hb3 : bk w < 3)
    (hK : ∀ f', R_rows bk (mv Q w) f' z → K f') : wp_X2_moveToEnd f z cb (nI w) K := by
  have hw := hQ w hm
  have hB := hR (bk w) hb3
  have hlen : (QB bk Q (bk w)).length ≤ 16 := nodup_len (QB_nodup hd) (fun x hx => hQ x (QB_mem.mp hx).1)
  unfold wp_X2_moveToEnd
  refine ⟨vp_in_nI hw (by omega), ?_⟩
  rintro _ rfl
  rw [nI_clamp (by omega), hb]
  refine ⟨vp_in_nI hb3 (by omega), ?_⟩
  have e16 : nI (bk w) * 16 = nI (16 * bk w) := by rw [show (16 : Int32) = nI 16 from rfl, pk_mul, Nat.mul_comm]
  rw [nI_clamp (by omega), hB.1, e16, nI_add]
  rintro _ rfl _ rfl
  refine ⟨(QB bk Q (bk w)).length + 1, ?_⟩
  have := seek_c (o := 16 * bk w) (w := w) (E := 16 * bk w + (QB bk Q (bk w)).length) (K := K) hw (by omega) (QB bk Q (bk w)) [] f (by simp) (by simp) (QB_mem.mpr ⟨hm, rfl⟩) (QB_nodup hd) (fun x hx => hQ x (QB_mem.mp hx).1) (by simpa using hB.2) (fun f' h1 h2 => hK f' (fun b hb' => ?_))
  · simpa using this
  · rw [List.nil_append] at h1
    by_cases c : b = bk w
    · subst c
      rw [QB_mv_s, mv_len (QB_mem.mpr ⟨hm, rfl⟩) (QB_nodup hd)]
      exact ⟨hB.1, h1⟩
    · rw [QB_mv_o c]
      have hlb : (QB bk Q b).length ≤ 16 := nodup_len (QB_nodup hd) (fun x hx => hQ x (QB_mem.mp hx).1)
      refine ⟨(hR b hb').1, RwL_congr (fun k k1 k2 => h2 k ?_) (hR b hb').2⟩
      omega
