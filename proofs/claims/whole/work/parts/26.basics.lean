/-! Pure layer, basics: numbers, rows (arrays as functions), small boolean methods. -/
theorem i_lt (a b : Int32) : a < b ↔ a.toInt < b.toInt := Int32.lt_iff_toInt_lt
theorem i_le (a b : Int32) : a ≤ b ↔ a.toInt ≤ b.toInt := Int32.le_iff_toInt_le
theorem i_eq (a b : Int32) : a = b ↔ a.toInt = b.toInt := Int32.toInt_inj.symm
theorem i_lit {n : Nat} (h : n < 2147483648) : (nI n).toInt = (n : Int) := nI_toInt h
theorem i_m1 : (-1 : Int32).toInt = -1 := by decide
/-- n < x is n + 1 ≤ x -/
theorem i_succ {n : Nat} (x : Int32) (h : n + 1 < 2147483648) : nI (n + 1) ≤ x ↔ nI n < x := by
  rw [i_lt, i_le, i_lit h, i_lit (by omega)]
  omega
def ap (g : Nat → Nat) (n v : Nat) : Nat → Nat := fun k => if k = n then v else g k
theorem ap_s (g : Nat → Nat) (n v : Nat) : ap g n v n = v := if_pos rfl
theorem ap_n {g : Nat → Nat} {n v k : Nat} (h : k ≠ n) : ap g n v k = g k := if_neg h
def rw_ (n : Nat) (f : Nat → Int32) (g : Nat → Nat) : Prop := ∀ k, k < n → f k = nI (g k)
theorem rw_ap {n v : Nat} {f : Nat → Int32} {g : Nat → Nat} (h : rw_ n f g) : rw_ (n + 1) (upd f n (nI v)) (ap g n v) := by
  intro k hk
  by_cases e : k = n
  · subst e; rw [ap_s]; exact pk_us
  · rw [ap_n e, pk_un e]; exact h k (by omega)
theorem rw_ap' {n v : Nat} {x i : Int32} {f : Nat → Int32} {g : Nat → Nat} (h : rw_ n f g) (hx : x = nI v) (hi : i = nI n) (hn : n < 2147483648) : rw_ (n + 1) (upd f i.toNatClampNeg x) (ap g n v) := by
  subst hx hi
  rw [nI_clamp hn]
  exact rw_ap h
theorem rw_upd {n v k : Nat} {f : Nat → Int32} {g : Nat → Nat} (h : rw_ n f g) : rw_ n (upd f k (nI v)) (ap g k v) := by
  intro j hj
  by_cases e : j = k
  · subst e; rw [ap_s]; exact pk_us
  · rw [ap_n e, pk_un e]; exact h j hj
theorem isBelow_iff {x n : Int32} {K : Int32 → Prop} : wp_X7_isBelow x n K ↔ ((x < 0 ∨ n ≤ x) → K 0) ∧ (¬ (x < 0 ∨ n ≤ x) → K 1) := by
  unfold wp_X7_isBelow
  by_cases h1 : x < 0 <;> by_cases h2 : n ≤ x <;> simp [h1, h2]
theorem hasCome_iff {t x : Int32} {K : Int32 → Prop} : wp_X7_hasCome t x K ↔ ((x < 0 ∨ t < x) → K 0) ∧ (¬ (x < 0 ∨ t < x) → K 1) := by
  unfold wp_X7_hasCome
  by_cases h1 : x < 0 <;> by_cases h2 : t < x <;> simp [h1, h2]
theorem isWorker_iff {w x : Int32} {K : Int32 → Prop} : wp_X8_isWorker w x K ↔ ((x < 0 ∨ w ≤ x) → K 0) ∧ (¬ (x < 0 ∨ w ≤ x) → K 1) := by
  unfold wp_X8_isWorker
  by_cases h1 : x < 0 <;> by_cases h2 : w ≤ x <;> simp [h1, h2]
theorem ne_m1 {v : Nat} (h : v < 2147483648) : ¬ nI v = -1 := fun q => by
  have := congrArg Int32.toInt q
  rw [i_lit h, i_m1] at this
  omega
theorem m1_lt {v : Nat} (h : v < 2147483648) : (-1 : Int32) < nI v := by rw [i_lt, i_lit h, i_m1]; omega
def sv (v : Nat) : Int32 := if v = 1000 then -1 else nI v
theorem sv_1000 : sv 1000 = -1 := rfl
theorem sv_ne {v : Nat} (h : v ≠ 1000) : sv v = nI v := if_neg h
def oi (o : Option Nat) : Int32 := match o with | none => -1 | some t => nI t
/-- a number is below 0, above n, or one of 0 .. n -/
theorem rng (n : Nat) (x : Int32) (hn : n + 1 < 2147483648) : x < 0 ∨ (¬ x < 0 ∧ nI (n + 1) ≤ x ∧ nI n < x) ∨ ∃ j, j < n + 1 ∧ x = nI j ∧ ¬ x < 0 ∧ ¬ nI (n + 1) ≤ x ∧ ¬ nI n < x := by
  by_cases h0 : x < 0
  · exact Or.inl h0
  · rcases pk_ix x (n := n + 1) (by omega) with h | h | ⟨j, hj, e⟩
    · exact absurd h h0
    · exact Or.inr (Or.inl ⟨h0, h, (i_succ x hn).mp h⟩)
    · have a : ¬ nI n < x := by rw [e]; exact nI_nlt (by omega) (by omega)
      exact Or.inr (Or.inr ⟨j, hj, e, h0, fun q => a ((i_succ x hn).mp q), a⟩)
theorem come (n : Nat) (x : Int32) (hn : n + 1 < 2147483648) : x < 0 ∨ (¬ x < 0 ∧ nI n < x ∧ ¬ x ≤ nI n) ∨ ∃ j, j ≤ n ∧ x = nI j ∧ ¬ x < 0 ∧ ¬ nI n < x ∧ x ≤ nI n := by
  rcases rng n x hn with h | ⟨h1, h2, h3⟩ | ⟨j, hj, e, h1, h2, h3⟩
  · exact Or.inl h
  · exact Or.inr (Or.inl ⟨h1, h3, fun q => by rw [i_le] at q; rw [i_lt] at h3; omega⟩)
  · exact Or.inr (Or.inr ⟨j, by omega, e, h1, h3, by rw [i_le]; rw [i_lt] at h3; omega⟩)
theorem one0 : ¬ (1 : Int32) = 0 := by decide
