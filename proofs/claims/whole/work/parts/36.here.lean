/-! here: told, and read -/
def hereN (hK hF hT : Nat → Nat) (q mi : Nat) : Nat → Nat
  | 0 => 0
  | n + 1 => if hK n = q then (if hF n ≤ mi ∧ mi < hT n then 1 else 0) else hereN hK hF hT q mi n
/-- the row of minutes: from and to in one number, by the first n told -/
def hereE (hK hF hT : Nat → Nat) (q : Nat) : Nat → Nat
  | 0 => 0
  | n + 1 => if hK n = q then hF n * 601 + hT n else hereE hK hF hT q n
theorem hereN_01 {hK hF hT : Nat → Nat} {q mi : Nat} : ∀ n : Nat, hereN hK hF hT q mi n = 0 ∨ hereN hK hF hT q mi n = 1
  | 0 => Or.inl rfl
  | n + 1 => by
    rw [hereN]
    split
    · split
      · exact Or.inr rfl
      · exact Or.inl rfl
    · exact hereN_01 n
theorem here_dec {hK hF hT : Nat → Nat} {q mi : Nat} : ∀ {n : Nat}, (∀ k, k < n → hF k < hT k ∧ hT k ≤ 600) → hereE hK hF hT q n < 361201 ∧ (hereN hK hF hT q mi n = 1 ↔ hereE hK hF hT q n / 601 ≤ mi ∧ mi < hereE hK hF hT q n % 601)
  | 0, _ => by
    refine ⟨by rw [hereE]; omega, ?_⟩
    rw [hereN, hereE]
    omega
  | n + 1, h => by
    rw [hereE, hereN]
    by_cases c : hK n = q
    · rw [if_pos c, if_pos c]
      have := h n (by omega)
      refine ⟨by omega, ?_⟩
      have e1 : (hF n * 601 + hT n) / 601 = hF n := by omega
      have e2 : (hF n * 601 + hT n) % 601 = hT n := by omega
      rw [e1, e2]
      by_cases g : hF n ≤ mi ∧ mi < hT n
      · rw [if_pos g]; exact ⟨fun _ => g, fun _ => rfl⟩
      · rw [if_neg g]; exact ⟨fun q => by omega, fun q => absurd q g⟩
    · rw [if_neg c, if_neg c]
      exact here_dec (fun k hk => h k (by omega))
theorem hereE_congr {hK hK' hF hF' hT hT' : Nat → Nat} {q : Nat} : ∀ {n : Nat}, (∀ j, j < n → hK j = hK' j ∧ hF j = hF' j ∧ hT j = hT' j) → hereE hK hF hT q n = hereE hK' hF' hT' q n
  | 0, _ => rfl
  | n + 1, h => by
    obtain ⟨a, b, c⟩ := h n (by omega)
    rw [hereE, hereE, a, b, c, hereE_congr (fun j hj => h j (by omega))]
def R_here (h : Nat) (hW hD hF hT : Nat → Nat) (cr_minutesHere : Nat → Int32) (cr_heres : Int32) (mm_hereWorker mm_hereDay mm_hereFrom mm_hereTo : Nat → Int32) (mm_heres : Int32) : Prop :=
  h ≤ 200 ∧ cr_heres = nI h ∧ mm_heres = nI h ∧ rw_ h mm_hereWorker hW ∧ rw_ h mm_hereDay hD ∧ rw_ h mm_hereFrom hF ∧ rw_ h mm_hereTo hT ∧ (∀ q, q < 1600 → cr_minutesHere q = nI (hereE (fun k => 100 * hW k + hD k) hF hT q h)) ∧ ∀ k, k < h → hW k < 16 ∧ hD k < 100 ∧ hF k < hT k ∧ hT k ≤ 600
theorem isHere_cls {h w day mi : Nat} {hW hD hF hT : Nat → Nat} {cr_minutesHere : Nat → Int32} {cr_heres : Int32} {mm_hereWorker mm_hereDay mm_hereFrom mm_hereTo : Nat → Int32} {mm_heres : Int32} {K : Int32 → Prop}
    (hR : R_here h hW hD hF hT cr_minutesHere cr_heres mm_hereWorker mm_hereDay mm_hereFrom mm_hereTo mm_heres) (hw : w < 16) (hday : day < 100) (hmi : mi < 2000000) (hK : K (nI (hereN (fun k => 100 * hW k + hD k) hF hT (100 * w + day) mi h))) :
    wp_X1_isHere cr_minutesHere (nI w) (nI day) (nI mi) K := by
  obtain ⟨-, -, -, -, -, -, -, hE, hrg⟩ := hR
  have hx : nI w * 100 + nI day = nI (100 * w + day) := by rw [show (100 : Int32) = nI 100 from rfl, pk_mul, nI_add, Nat.mul_comm]
  obtain ⟨d1, d2⟩ := here_dec (hK := fun k => 100 * hW k + hD k) (hF := hF) (hT := hT) (q := 100 * w + day) (mi := mi) (n := h) (fun k hk => (hrg k hk).2.2)
  unfold wp_X1_isHere
  rw [hx, nI_clamp (show 100 * w + day < 2 ^ 31 by omega), hE _ (by omega)]
  refine ⟨vp_in_nI (by omega) (by omega), fun y e => ?_⟩
  subst e
  generalize hereE (fun k => 100 * hW k + hD k) hF hT (100 * w + day) h = v at d1 d2
  rw [show (601 : Int32) = nI 601 from rfl, pk_rem (by omega) (by omega) (by omega), pk_div (by omega) (by omega) (by omega)]
  have hz : ∀ b, (hereN (fun k => 100 * hW k + hD k) hF hT (100 * w + day) mi h = 1 ↔ b = 1) → (b = 0 ∨ b = 1) → K (nI b) := fun b h1 h2 => by
    rcases hereN_01 (hK := fun k => 100 * hW k + hD k) (hF := hF) (hT := hT) (q := 100 * w + day) (mi := mi) h with g | g <;> rcases h2 with f | f <;> rw [g] at h1 hK <;> rw [f] at h1 ⊢ <;> first | exact hK | omega
  refine pk_lt mi (v / 601) (fun g => hz 0 (by omega) (Or.inl rfl)) (fun g => ?_)
  refine pk_le (v % 601) mi (fun f => hz 0 (by omega) (Or.inl rfl)) (fun f => hz 1 (by omega) (Or.inr rfl))
