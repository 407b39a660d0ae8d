/-! a line of a text: one statement for both sides -/
theorem numS_ok {tb : Nat → Nat} {N : Nat} : ∀ {m i v : Nat}, i + m = N → v ≤ 9999 → i ≤ (numS tb N m i v).1 ∧ (numS tb N m i v).1 ≤ N ∧ (numS tb N m i v).2 ≤ 9999
  | 0, i, v, h, hv => ⟨Nat.le_refl _, by show i ≤ N; omega, hv⟩
  | m + 1, i, v, h, hv => by
    by_cases c : i < N ∧ isD (tb i)
    · rw [numS_t c]
      have hd := c.2
      unfold isD at hd
      have := numS_ok (tb := tb) (N := N) (m := m) (i := i + 1) (v := if v ≤ 999 then 10 * v + tb i - 48 else v) (by omega) (by split <;> omega)
      exact ⟨by omega, this.2.1, this.2.2⟩
    · rw [numS_f c]
      exact ⟨Nat.le_refl _, by show i ≤ N; omega, hv⟩
theorem wF_lt {tb : Nat → Nat} {s e : Nat} : ∀ {n k : Nat}, wF tb s e n = some k → k < n
  | 0, k, h => by rw [wF] at h; cases h
  | n + 1, k, h => by
    by_cases c : wd tb s e n
    · rw [wF_t c] at h; cases h; omega
    · rw [wF_f c] at h; have := wF_lt h; omega
def okT (N : Nat) (t : Nat × Nat × Nat × Nat) : Prop := t.2.2.1 ≤ N ∧ t.2.1 ≤ t.2.2.1 ∧ (t.1 ≠ 0 → t.2.1 < t.2.2.1) ∧ (t.1 = 1 → t.2.2.2 < 6) ∧ (t.1 = 2 → t.2.2.2 ≤ 9999) ∧ t.1 ≤ 4
theorem okT_mk {N k p nx v : Nat} (h1 : nx ≤ N) (h2 : p < nx) (h3 : k = 1 → v < 6) (h4 : k = 2 → v ≤ 9999) (h5 : k ≤ 4) : okT N (k, p, nx, v) := ⟨h1, Nat.le_of_lt h2, fun _ => h2, h3, h4, h5⟩
theorem tokP_ok {tb : Nat → Nat} {N p : Nat} (hp : p ≤ N) : okT N (tokP tb N p) ∧ (tokP tb N p).2.1 = p := by
  by_cases h : p < N
  · by_cases hl : isL (tb p)
    · have e1 : N - p = (N - p - 1) + 1 := by omega
      have a1 : p + 1 ≤ scS isL tb N (N - p) p := by rw [e1, scS_t ⟨h, hl⟩]; exact scS_ge
      have a2 : scS isL tb N (N - p) p ≤ N := scS_le (by omega)
      cases e : wF tb p (scS isL tb N (N - p) p) 6 with
      | none => rw [tokP_bad h hl e]; exact ⟨okT_mk a2 a1 (by omega) (by omega) (by omega), rfl⟩
      | some k =>
        have := wF_lt e
        rw [tokP_word h hl e]; exact ⟨okT_mk a2 a1 (by omega) (by omega) (by omega), rfl⟩
    · by_cases hd : isD (tb p)
      · have e1 : N - p = (N - p - 1) + 1 := by omega
        have a0 : p + 1 ≤ (numS tb N (N - p) p 0).1 := by
          rw [e1, numS_t ⟨h, hd⟩]
          unfold isD at hd
          exact (numS_ok (by omega) (by split <;> omega)).1
        have a1 := numS_ok (tb := tb) (N := N) (m := N - p) (i := p) (v := 0) (by omega) (by omega)
        rw [tokP_num h hl hd]
        exact ⟨okT_mk a1.2.1 a0 (by omega) (fun _ => a1.2.2) (by omega), rfl⟩
      · by_cases hs : tb p = 59
        · rw [tokP_semi h hl hd hs]
          exact ⟨okT_mk (by omega) (by omega) (by omega) (by omega) (by omega), rfl⟩
        · rw [tokP_oth h hl hd hs]
          exact ⟨okT_mk (by omega) (by omega) (by omega) (by omega) (by omega), rfl⟩
  · rw [tokP_end h]
    refine ⟨⟨hp, Nat.le_refl _, fun q => absurd rfl q, fun q => ?_, fun q => ?_, Nat.zero_le _⟩, rfl⟩
    · exact absurd q (show ¬ (0 : Nat) = 1 by omega)
    · exact absurd q (show ¬ (0 : Nat) = 2 by omega)
theorem tokS_ok {tb : Nat → Nat} {N i : Nat} (hi : i ≤ N) : okT N (tokS tb N i) ∧ i ≤ (tokS tb N i).2.1 := by
  have h1 : scS isB tb N (N - i) i ≤ N := scS_le (by omega)
  have h2 : i ≤ scS isB tb N (N - i) i := scS_ge
  have := tokP_ok (tb := tb) h1
  unfold tokS
  exact ⟨this.1, by rw [this.2]; exact h2⟩
def mstN (key : Nat) : Nat := if key = 3 ∨ key = 4 then 1 else 999
/-- fault, its place, token, what is said, lines -/
noncomputable def restS (tb : Nat → Nat) (N p key : Nat) (t : Nat × Nat × Nat × Nat) (sy : Nat → Nat) (ln : Nat) : Nat × Nat × (Nat × Nat × Nat × Nat) × (Nat → Nat) × Nat :=
  if t.1 ≠ 2 then (1, t.2.1, t, sy, ln) else if mstN key < t.2.2.2 then (2, t.2.1, t, sy, ln) else if sy key ≠ 1000 then (3, p, t, sy, ln)
  else if (tokS tb N t.2.2.1).1 ≠ 3 then (1, (tokS tb N t.2.2.1).2.1, t, sy, ln) else (0, 0, tokS tb N (tokS tb N t.2.2.1).2.2.1, ap sy key t.2.2.2, ln + 1)
noncomputable def lineS (tb : Nat → Nat) (N : Nat) (t : Nat × Nat × Nat × Nat) (sy : Nat → Nat) (ln : Nat) : Nat × Nat × (Nat × Nat × Nat × Nat) × (Nat → Nat) × Nat :=
  if t.1 ≠ 1 then (1, t.2.1, t, sy, ln) else if t.2.2.2 = 5 then
    (if (tokS tb N t.2.2.1).1 ≠ 2 then (1, (tokS tb N t.2.2.1).2.1, t, sy, ln) else if 2 < (tokS tb N t.2.2.1).2.2.2 then (2, (tokS tb N t.2.2.1).2.1, t, sy, ln)
     else restS tb N t.2.1 (5 + (tokS tb N t.2.2.1).2.2.2) (tokS tb N (tokS tb N t.2.2.1).2.2.1) sy ln)
  else restS tb N t.2.1 t.2.2.2 (tokS tb N t.2.2.1) sy ln
def sy_ok (sy : Nat → Nat) : Prop := ∀ k, k < 8 → sy k ≤ 1000
def LC (r : Nat × Nat × (Nat × Nat × Nat × Nat) × (Nat → Nat) × Nat) (a : Nat → Int32) (ln f fp pl kd st v : Int32) : Prop :=
  f = nI r.1 ∧ (r.1 ≠ 0 → fp = nI r.2.1) ∧ (r.1 = 0 → fp = -1 ∧ TokC r.2.2.1 pl kd st v ∧ (∀ k, k < 8 → a k = sv (r.2.2.2.1 k)) ∧ ln = nI r.2.2.2.2)
def LR (r : Nat × Nat × (Nat × Nat × Nat × Nat) × (Nat → Nat) × Nat) (a0 a : Nat → Int32) (at_ pl so v f fp ln : Int32) : Prop :=
  f = nI r.1 ∧ (r.1 ≠ 0 → fp = nI r.2.1) ∧ (∀ k, k < 80 → a k = a0 k) ∧ (r.1 = 0 → fp = -1 ∧ TokR r.2.2.1 at_ pl so v ∧ (∀ k, k < 8 → a (80 + k) = sv (r.2.2.2.1 k)) ∧ ln = nI r.2.2.2.2)
theorem sv_m1 {v : Nat} (h : v ≤ 1000) : sv v = -1 ↔ v = 1000 := by
  constructor
  · intro q
    by_cases c : v = 1000
    · exact c
    · rw [sv_ne c] at q; exact absurd q (ne_m1 (by omega))
  · intro q; rw [q]; rfl
theorem kind_c {t : Nat × Nat × Nat × Nat} {k : Nat} {f fp pl kd st v : Int32} {K : Int32 → Int32 → Int32 → Prop} (hT : TokC t pl kd st v) (hk : t.1 ≤ 4) (hk2 : k ≤ 4) (h1 : t.1 = k → K 1 f fp) (h0 : t.1 ≠ k → K 0 1 (nI t.2.1)) : wp_X3_isKind f fp kd st (nI k) K := by
  obtain ⟨-, rfl, rfl, -⟩ := hT
  unfold wp_X3_isKind wp_X3_setFault
  exact pk_eq t.1 k h1 h0
theorem upto_c {t : Nat × Nat × Nat × Nat} {m : Nat} {f fp pl kd st v : Int32} {K : Int32 → Int32 → Int32 → Prop} (hT : TokC t pl kd st v) {N : Nat} (ho : okT N t) (hm : m ≤ 999) (h1 : t.1 = 2 → t.2.2.2 ≤ m → v = nI t.2.2.2 → K 1 f fp) (h0 : t.1 ≠ 2 → K 0 1 (nI t.2.1)) (h2 : t.1 = 2 → m < t.2.2.2 → K 0 2 (nI t.2.1)) : wp_X3_isNumberUpTo f fp kd st v (nI m) K := by
  unfold wp_X3_isNumberUpTo
  refine kind_c (k := 2) hT ho.2.2.2.2.2 (by omega) (fun e => ⟨fun _ => ?_, fun q => absurd q one0⟩) (fun e => ⟨fun q => absurd rfl q, fun _ => h0 e⟩)
  have hv := hT.2.2.2 (Or.inr e)
  have := ho.2.2.2.2.1 e
  obtain ⟨-, -, rfl, -⟩ := hT
  rw [hv]
  exact pk_le t.2.2.2 m (fun q => h1 e q hv) (fun q => h2 e (by omega))
theorem most_c {key : Nat} {K : Int32 → Prop} (hk : key < 8) (hK : K (nI (mstN key))) : wp_X3_mostOf (nI key) K := by
  unfold wp_X3_mostOf
  refine pk_eq key 3 (fun e => ?_) (fun e => ?_)
  · subst e; exact hK
  · refine ⟨fun q => ?_, fun q => ?_⟩
    · have : key ≠ 4 := fun w => q (by rw [w]; rfl)
      unfold mstN at hK; rw [if_neg (by omega)] at hK; exact hK
    · have : key = 4 := by
        by_cases w : key = 4
        · exact w
        · exact absurd ((nI_eq (by omega) (by omega)).mp (q.trans (show (4 : Int32) = nI 4 from rfl))) w
      subst this; exact hK
