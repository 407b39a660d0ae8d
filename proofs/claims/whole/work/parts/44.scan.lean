/-! reading a text: classes of bytes, blanks, numbers -/
def isD (t : Nat) : Prop := 48 ≤ t ∧ t ≤ 57
def isL (t : Nat) : Prop := 97 ≤ t ∧ t ≤ 122
def isB (t : Nat) : Prop := t = 10 ∨ t = 32
theorem digit_c {t : Nat} {K : Int32 → Prop} (ht : t < 256) (h1 : isD t → K 1) (h0 : ¬ isD t → K 0) : wp_X3_isDigit (nI t) K := by
  unfold wp_X3_isDigit
  unfold isD at h1 h0
  exact pk_lt t 48 (fun h => h0 (by omega)) (fun h => pk_lt 57 t (fun g => h0 (by omega)) (fun g => h1 (by omega)))
theorem letter_c {t : Nat} {K : Int32 → Prop} (ht : t < 256) (h1 : isL t → K 1) (h0 : ¬ isL t → K 0) : wp_X3_isLetter (nI t) K := by
  unfold wp_X3_isLetter
  unfold isL at h1 h0
  exact pk_lt t 97 (fun h => h0 (by omega)) (fun h => pk_lt 122 t (fun g => h0 (by omega)) (fun g => h1 (by omega)))
theorem blank_c {t : Nat} {K : Int32 → Prop} (ht : t < 256) (h1 : isB t → K 1) (h0 : ¬ isB t → K 0) : wp_X3_isBlank (nI t) K := by
  unfold wp_X3_isBlank
  unfold isB at h1 h0
  refine pk_eq t 10 (fun h => h1 (by omega)) (fun h => ?_)
  have := pk_eq (A := K 1) (B := K 0) (x := nI t) (y := 32) t 32 (fun g => h1 (by omega)) (fun g => h0 (by omega))
  exact ⟨this.2, this.1⟩
theorem digit_r {t : Nat} {K : Int32 → Prop} (ht : t < 256) (h1 : isD t → K 1) (h0 : ¬ isD t → K 0) : wp_X8_isDigit (nI t) K := by
  unfold wp_X8_isDigit
  unfold isD at h1 h0
  exact pk_lt t 48 (fun h => h0 (by omega)) (fun h => pk_lt 57 t (fun g => h0 (by omega)) (fun g => h1 (by omega)))
theorem small_r {t : Nat} {K : Int32 → Prop} (ht : t < 256) (h1 : isL t → K 1) (h0 : ¬ isL t → K 0) : wp_X8_isSmall (nI t) K := by
  unfold wp_X8_isSmall
  unfold isL at h1 h0
  exact pk_lt t 97 (fun h => h0 (by omega)) (fun h => pk_lt 122 t (fun g => h0 (by omega)) (fun g => h1 (by omega)))
theorem digit_m1 {K : Int32 → Prop} (h0 : K 0) : wp_X8_isDigit (-1) K := by
  unfold wp_X8_isDigit
  exact br_t (by decide) h0
theorem small_m1 {K : Int32 → Prop} (h0 : K 0) : wp_X8_isSmall (-1) K := by
  unfold wp_X8_isSmall
  exact br_t (by decide) h0
/-- the bytes of a text of N: tb; the class has them in words, the reference in a row -/
def R_text (L N : Nat) (tb : Nat → Nat) (f g : Nat → Int32) : Prop := L ≤ 800 ∧ N ≤ L ∧ ∀ j, j < N → tb j < 256 ∧ by_ (f (j / 4)) (j % 4) = nI (tb j) ∧ g j = nI (tb j)
theorem byte_c {L N p : Nat} {tb : Nat → Nat} {f g : Nat → Int32} {K : Int32 → Prop} (hR : R_text L N tb f g) (hp : p < N) (hK : K (nI (tb p))) : wp_X6_byteAt f (nI L) (nI p) K := by
  obtain ⟨h1, h2, h3⟩ := hR
  refine byteAt_ok h1 (by omega) ?_
  rw [(h3 p hp).2.1]
  exact hK
theorem byte_r {L N p : Nat} {tb : Nat → Nat} {f g : Nat → Int32} {K : Int32 → Prop} (hR : R_text L N tb f g) (hp : p ≤ N) (h1 : p < N → K (nI (tb p))) (h0 : p = N → K (-1)) : wp_X8_here0 g (nI N) (nI p) K := by
  obtain ⟨a1, a2, a3⟩ := hR
  unfold wp_X8_here0
  refine pk_le N p (fun h => h0 (by omega)) (fun h => ⟨vp_in_nI (by omega) (by omega), ?_⟩)
  rw [nI_clamp (by omega), (a3 p h).2.2]
  exact h1 h
noncomputable def numS (tb : Nat → Nat) (N : Nat) : Nat → Nat → Nat → Nat × Nat
  | 0, i, v => (i, v)
  | m + 1, i, v => match Classical.propDecidable (i < N ∧ isD (tb i)) with
    | .isTrue _ => numS tb N m (i + 1) (if v ≤ 999 then 10 * v + tb i - 48 else v)
    | .isFalse _ => (i, v)
theorem numS_t {tb : Nat → Nat} {N m i v : Nat} (h : i < N ∧ isD (tb i)) : numS tb N (m + 1) i v = numS tb N m (i + 1) (if v ≤ 999 then 10 * v + tb i - 48 else v) := by
  rw [numS]
  split
  · rfl
  · exact absurd h (by assumption)
theorem numS_f {tb : Nat → Nat} {N m i v : Nat} (h : ¬ (i < N ∧ isD (tb i))) : numS tb N (m + 1) i v = (i, v) := by
  rw [numS]
  split
  · exact absurd (by assumption) h
  · rfl
theorem num_c {L N : Nat} {tb : Nat → Nat} {f g : Nat → Int32} {kd : Int32} {K : Int32 → Int32 → Int32 → Prop} (hR : R_text L N tb f g) : ∀ m i v : Nat, i + m = N → v ≤ 9999 → K (nI (numS tb N m i v).1) kd (nI (numS tb N m i v).2) → wp_X3_takeNumber_b10 K (nI N) f (nI L) (m + 1) (nI i) kd (nI v) := by
  have hL := hR.1
  have hN := hR.2.1
  intro m
  induction m with
  | zero =>
    intro i v hi hv hK
    rw [wp_X3_takeNumber_b10]
    refine pk_le N i (fun _ => hK) (fun h => absurd h (by omega))
  | succ m ih =>
    intro i v hi hv hK
    have hiN : i < N := by omega
    have ht := (hR.2.2 i hiN).1
    rw [wp_X3_takeNumber_b10]
    refine pk_le N i (fun h => absurd h (by omega)) (fun _ => byte_c hR hiN (digit_c ht (fun hd => ?_) (fun hd => ?_)))
    · rw [numS_t ⟨hiN, hd⟩] at hK
      refine ⟨fun q => absurd q (by decide), fun _ => ?_⟩
      refine pk_lt 999 v (fun h => ?_) (fun h => byte_c hR hiN (fun y8 e8 => ?_))
      · rw [wp_X3_takeNumber_b74]
        intro y1 e1
        rw [e1, nI_1]
        rw [if_neg (by omega)] at hK
        exact ih (i + 1) v (by omega) hv hK
      · rw [wp_X3_takeNumber_b74]
        intro y1 e1
        unfold isD at hd
        rw [e1, nI_1, e8, show (10 : Int32) = nI 10 from rfl, pk_mul, nI_add, show (48 : Int32) = nI 48 from rfl, pk_sub (by omega), Nat.mul_comm]
        rw [if_pos (by omega)] at hK
        exact ih (i + 1) _ (by omega) (by omega) hK
    · rw [numS_f (fun c => hd c.2)] at hK
      exact ⟨fun _ => hK, fun q => absurd rfl q⟩
theorem num_r {L N : Nat} {tb : Nat → Nat} {f g : Nat → Int32} {pl so : Int32} {K : Int32 → Int32 → Int32 → Int32 → Prop} (hR : R_text L N tb f g) : ∀ m i v : Nat, i + m = N → v ≤ 9999 → K (nI (numS tb N m i v).1) pl so (nI (numS tb N m i v).2) → wp_X8_next_b132 K g (nI N) (m + 1) (nI i) pl so (nI v) := by
  have hL := hR.1
  have hN := hR.2.1
  intro m
  induction m with
  | zero =>
    intro i v hi hv hK
    rw [wp_X8_next_b132]
    exact byte_r hR (by omega) (fun h => by omega) (fun _ => digit_m1 ⟨fun _ => hK, fun q => absurd rfl q⟩)
  | succ m ih =>
    intro i v hi hv hK
    have hiN : i < N := by omega
    have ht := (hR.2.2 i hiN).1
    rw [wp_X8_next_b132]
    refine byte_r hR (by omega) (fun _ => digit_r ht (fun hd => ?_) (fun hd => ?_)) (fun h => by omega)
    · rw [numS_t ⟨hiN, hd⟩] at hK
      refine ⟨fun q => absurd q (by decide), fun _ => ?_⟩
      refine pk_le v 999 (fun h => byte_r hR (by omega) (fun _ => ?_) (fun h => by omega)) (fun h => ?_)
      · rw [wp_X8_next_b175]
        intro y1 e1
        unfold isD at hd
        rw [e1, nI_1, show (10 : Int32) = nI 10 from rfl, pk_mul, nI_add, show (48 : Int32) = nI 48 from rfl, pk_sub (by omega)]
        rw [if_pos h] at hK
        exact ih (i + 1) _ (by omega) (by omega) hK
      · rw [wp_X8_next_b175]
        intro y1 e1
        rw [e1, nI_1]
        rw [if_neg (by omega)] at hK
        exact ih (i + 1) v (by omega) hv hK
    · rw [numS_f (fun c => hd c.2)] at hK
      exact ⟨fun _ => hK, fun q => absurd rfl q⟩
