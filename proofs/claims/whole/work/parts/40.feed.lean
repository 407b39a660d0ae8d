/-! feed: the tape -/
def by_ (x : Int32) (r : Nat) : Int32 := (x >>> (nI (24 - 8 * r) &&& 31)) &&& 255
def R_tape (L : Nat) (tp_words : Nat → Int32) (tp_length : Int32) (mm_tape : Nat → Int32) (mm_taped : Int32) : Prop :=
  L ≤ 800 ∧ L % 20 = 0 ∧ tp_length = nI L ∧ mm_taped = nI L ∧ ∀ j, j < L → mm_tape j = by_ (tp_words (j / 4)) (j % 4)
theorem tadd_ok {L : Nat} {f : Nat → Int32} {x : Int32} {K : (Nat → Int32) → Int32 → Prop} (h4 : L % 4 = 0) (hL : L + 4 ≤ 800) (hK : K (upd f (L / 4) x) (nI (L + 4))) : wp_X6_add f (nI L) x K := by
  unfold wp_X6_add
  intro y e
  have e2 : y = nI (L / 4) := by rw [e, show (4 : Int32) = nI 4 from rfl, pk_div (by omega) (by omega) (by omega)]
  rw [e2, nI_clamp (by omega)]
  refine pk_le 200 (L / 4) (fun h => absurd h (by omega)) (fun _ => ⟨vp_in_nI (by omega) (by omega), fun y4 e4 => ?_⟩)
  rw [e4, show nI L + 4 = nI (L + 4) from nI_add L 4]
  exact hK
def xv (x1 x2 x3 x4 x5 : Int32) (i : Nat) : Int32 := if i = 0 then x1 else if i = 1 then x2 else if i = 2 then x3 else if i = 3 then x4 else x5
theorem feed_ref {L : Nat} {mm_tape : Nat → Int32} {x1 x2 x3 x4 x5 mm_thrown : Int32} {K : Int32 → Int32 → (Nat → Int32) → Int32 → Prop} (hL : L + 20 ≤ 800)
    (hK : ∀ g : Nat → Int32, (∀ j, j < L → g j = mm_tape j) → (∀ k, k < 20 → g (L + k) = by_ (xv x1 x2 x3 x4 x5 (k / 4)) (k % 4)) → K (nI (L + 20)) mm_thrown g (nI (L + 20))) :
    ∃ n20 : Nat, wp_X8_feed_b20 K (nI L) x1 x2 x3 x4 x5 n20 mm_thrown mm_tape 0 := by
  have loop : ∀ m k : Nat, k + m = 20 → ∀ g : Nat → Int32, (∀ j, j < L → g j = mm_tape j) → (∀ i, i < k → g (L + i) = by_ (xv x1 x2 x3 x4 x5 (i / 4)) (i % 4)) → wp_X8_feed_b20 K (nI L) x1 x2 x3 x4 x5 (m + 1) mm_thrown g (nI k) := by
    intro m
    induction m with
    | zero =>
      intro k hk g h1 h2
      have hk : k = 20 := by omega
      subst hk
      rw [wp_X8_feed_b20]
      refine pk_le 20 20 (fun _ y e => ?_) (fun h => absurd h (by omega))
      rw [e, show nI L + 20 = nI (L + 20) from nI_add L 20]
      exact hK g h1 h2
    | succ m ih =>
      intro k hk g h1 h2
      have step : ∀ v, v = xv x1 x2 x3 x4 x5 (k / 4) → wp_X8_feed_b73 K (fun mm_thrown mm_tape x6 => wp_X8_feed_b20 K (nI L) x1 x2 x3 x4 x5 (m + 1) mm_thrown mm_tape x6) (nI L) mm_thrown g (nI k) v := by
        intro v hv
        rw [wp_X8_feed_b73]
        intro y1 ey
        have ee : (24 : Int32) - 8 * (nI k - nI k / 4 * 4) = nI (24 - 8 * (k % 4)) := by
          rw [show (4 : Int32) = nI 4 from rfl, pk_rem (by omega) (by omega) (by omega), show (8 : Int32) = nI 8 from rfl, pk_mul, show (24 : Int32) = nI 24 from rfl, pk_sub (by omega)]
        rw [ee] at ey
        rw [nI_add, nI_clamp (show L + k < 2 ^ 31 by omega)]
        refine ⟨vp_in_nI (by omega) (by omega), fun y3 e3 => ?_⟩
        rw [e3, nI_1]
        refine ih (k + 1) (by omega) _ (fun j hj => by rw [pk_un (by omega)]; exact h1 j hj) (fun i hi => ?_)
        by_cases c : i = k
        · subst c
          rw [pk_us, ey, hv]
          rfl
        · rw [pk_un (by omega)]
          exact h2 i (by omega)
      rw [wp_X8_feed_b20]
      refine pk_le 20 k (fun h => absurd h (by omega)) (fun _ => ?_)
      refine pk_le 4 k (fun a => ?_) (fun a => step _ (by rw [show k / 4 = 0 by omega]; rfl))
      refine pk_le 8 k (fun b => ?_) (fun b => step _ (by rw [show k / 4 = 1 by omega]; rfl))
      refine pk_le 12 k (fun c => ?_) (fun c => step _ (by rw [show k / 4 = 2 by omega]; rfl))
      exact pk_le 16 k (fun d => step _ (by rw [show k / 4 = 4 by omega]; rfl)) (fun d => step _ (by rw [show k / 4 = 3 by omega]; rfl))
  exact ⟨21, loop 20 0 (by omega) mm_tape (fun _ _ => rfl) (fun i hi => by omega)⟩
theorem p_feed {L : Nat} {tp_words mm_tape : Nat → Int32} {tp_length mm_taped mm_thrown x1 x2 x3 x4 x5 : Int32} {Q : (Nat → Int32) → Int32 → Int32 → (Nat → Int32) → Int32 → Prop}
    (hR : R_tape L tp_words tp_length mm_tape mm_taped) (h0 : Q tp_words tp_length 0 mm_tape mm_taped)
    (hQ : ∀ f g, L + 20 ≤ 800 → R_tape (L + 20) f (nI (L + 20)) g (nI (L + 20)) → Q f (nI (L + 20)) 0 g (nI (L + 20))) :
    wp_X7_feed tp_words tp_length x1 x2 x3 x4 x5 (fun r f n => wp_X8_feed mm_thrown mm_tape mm_taped x1 x2 x3 x4 x5 (fun q t g k => r = q ∧ Q f n t g k)) := by
  obtain ⟨hL, h20, rfl, rfl, hj⟩ := hR
  unfold wp_X7_feed wp_X6_hasRoom wp_X8_feed
  rw [show nI L + 20 = nI (L + 20) from nI_add L 20]
  refine pk_lt 800 (L + 20) (fun h => ?_) (fun h => ?_)
  · refine ⟨fun q => absurd rfl q, fun _ => ?_⟩
    exact pk_le L 780 (fun g => absurd g (by omega)) (fun _ => ⟨rfl, h0⟩)
  · refine ⟨fun _ => ?_, fun q => absurd q (by decide)⟩
    refine tadd_ok (by omega) (by omega) (tadd_ok (by omega) (by omega) (tadd_ok (by omega) (by omega) (tadd_ok (by omega) (by omega) (tadd_ok (by omega) (by omega) ?_))))
    refine pk_le L 780 (fun _ => ?_) (fun g => absurd g (by omega))
    refine feed_ref h (fun g g1 g2 => ⟨rfl, hQ _ g h ⟨h, by omega, rfl, rfl, fun j hjj => ?_⟩⟩)
    by_cases c : j < L
    · rw [g1 j c, hj j c, pk_un (by omega), pk_un (by omega), pk_un (by omega), pk_un (by omega), pk_un (by omega)]
    · obtain ⟨k, rfl⟩ : ∃ k, j = L + k := ⟨j - L, by omega⟩
      rw [g2 k (by omega), show (L + k) % 4 = k % 4 by omega]
      congr 1
      rcases (show k / 4 = 0 ∨ k / 4 = 1 ∨ k / 4 = 2 ∨ k / 4 = 3 ∨ k / 4 = 4 by omega) with q | q | q | q | q
      · rw [q, pk_un (by omega), pk_un (by omega), pk_un (by omega), pk_un (by omega), show (L + k) / 4 = L / 4 by omega, pk_us]; rfl
      · rw [q, pk_un (by omega), pk_un (by omega), pk_un (by omega), show (L + k) / 4 = (L + 4) / 4 by omega, pk_us]; rfl
      · rw [q, pk_un (by omega), pk_un (by omega), show (L + k) / 4 = (L + 4 + 4) / 4 by omega, pk_us]; rfl
      · rw [q, pk_un (by omega), show (L + k) / 4 = (L + 4 + 4 + 4) / 4 by omega, pk_us]; rfl
      · rw [q, show (L + k) / 4 = (L + 4 + 4 + 4 + 4) / 4 by omega, pk_us]; rfl
