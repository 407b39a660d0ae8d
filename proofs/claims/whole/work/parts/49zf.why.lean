/-! why; the pairs that differ -/
theorem noted_c {f : Nat → Int32} {N : Nat → Nat} {c w : Nat} {K : Int32 → Prop} (hf : ∀ j, j < 960 → f j = nI (N j)) (hN : ∀ j, N j < 160000) (hc : c < 60) (hw : w < 16) (hK : K (nI (N (16 * c + w) % 8))) : wp_X2_outcomeNoted f (nI c) (nI w) K := by
  have ix : nI c * 16 + nI w = nI (16 * c + w) := by rw [show (16 : Int32) = nI 16 from rfl, pk_mul, nI_add, Nat.mul_comm]
  have := hN (16 * c + w)
  unfold wp_X2_outcomeNoted
  rw [ix]
  refine ⟨vp_in_nI (by omega) (by omega), ?_⟩
  rw [nI_clamp (by omega), hf _ (by omega), show (8 : Int32) = nI 8 from rfl, pk_rem (by omega) (by omega) (by omega)]
  exact hK
theorem clock_c {f : Nat → Int32} {N : Nat → Nat} {c w : Nat} {K : Int32 → Prop} (hf : ∀ j, j < 960 → f j = nI (N j)) (hN : ∀ j, N j < 160000) (hc : c < 60) (hw : w < 16) (hK : K (mnI (N (16 * c + w)))) : wp_X2_clockNoted f (nI c) (nI w) K := by
  have ix : nI c * 16 + nI w = nI (16 * c + w) := by rw [show (16 : Int32) = nI 16 from rfl, pk_mul, nI_add, Nat.mul_comm]
  have := hN (16 * c + w)
  unfold wp_X2_clockNoted
  refine noted_c hf hN hc hw ?_
  unfold mnI at hK
  by_cases c0 : N (16 * c + w) % 8 = 0
  · rw [if_pos (Or.inl c0)] at hK
    rw [c0]
    refine ⟨fun _ => ?_, fun q => absurd rfl q⟩
    unfold wp_X2_clockNoted_b21 wp_X2_clockNoted_b22
    exact ⟨fun _ => hK, fun q => absurd rfl q⟩
  · refine ⟨fun q => absurd ((nI_eq (b := 0) (by omega) (by omega)).mp q) c0, fun _ => ?_⟩
    by_cases c6 : N (16 * c + w) % 8 = 6
    · rw [if_pos (Or.inr c6)] at hK
      rw [c6]
      refine ⟨fun _ => ?_, fun q => absurd rfl q⟩
      unfold wp_X2_clockNoted_b21 wp_X2_clockNoted_b22
      exact ⟨fun _ => hK, fun q => absurd rfl q⟩
    · rw [if_neg (by omega)] at hK
      refine ⟨fun q => absurd ((nI_eq (b := 6) (by omega) (by omega)).mp q) c6, fun _ => ?_⟩
      unfold wp_X2_clockNoted_b22
      refine ⟨fun q => absurd q one0, fun _ => ?_⟩
      rw [ix]
      refine ⟨vp_in_nI (by omega) (by omega), ?_⟩
      rw [nI_clamp (by omega), hf _ (by omega), show (8 : Int32) = nI 8 from rfl, pk_div (by omega) (by omega) (by omega)]
      exact hK
theorem p_why {d W C n : Nat} {cY N : Nat → Nat} {fl_notes mm_callDay mm_keptWhys mm_keptMinutes : Nat → Int32} {fl_callsDone cr_size mm_thrown mm_today mm_workers mm_calls x1 x2 x3 : Int32} {P : Int32 → Prop}
    (hW : W ≤ 16) (w1 : cr_size = nI W) (w2 : mm_workers = nI W) (hd : d < 100) (e2 : mm_today = nI d) (hC : C ≤ 60) (c2 : mm_calls = nI C) (ry : rw_ C mm_callDay cY) (hY : ∀ k, k < C → cY k ≤ d) (hn : isN C cY d n) (c1 : fl_callsDone = nI n)
    (hf : ∀ j, j < 960 → fl_notes j = nI (N j)) (hN : ∀ j, N j < 160000) (hk : ∀ j, j < 960 → mm_keptWhys j = nI (N j % 8)) (hk2 : 0 < d → ∀ j, j < 960 → mm_keptMinutes j = mnI (N j)) (h0 : P 0) :
    wp_X7_why fl_notes fl_callsDone cr_size x1 x2 x3 (fun r => wp_X8_why mm_thrown mm_today mm_workers mm_callDay mm_calls mm_keptWhys mm_keptMinutes x1 x2 x3 (fun q t => r = q ∧ P t)) := by
  subst w1 w2 e2 c1 c2
  have nC := hn.1
  unfold wp_X7_why
  rw [isBelow_iff]
  have none_ : (x1 < 0 ∨ nI C ≤ x1 ∨ ∃ c, n ≤ c ∧ c < C ∧ x1 = nI c) → wp_X8_why mm_thrown (nI d) (nI W) mm_callDay (nI C) mm_keptWhys mm_keptMinutes x1 x2 x3 (fun q t => -1 = q ∧ P t) := by
    intro h
    unfold wp_X8_why
    by_cases a : x1 < 0
    · exact br_t a ⟨rfl, h0⟩
    · refine br_f a ?_
      by_cases b : nI C ≤ x1
      · exact br_t b ⟨rfl, h0⟩
      · refine br_f b ?_
        rcases h with h | h | ⟨c, h1, h2, rfl⟩
        · exact absurd h a
        · exact absurd h b
        · refine ⟨vp_in_nI (by omega) (by omega), ?_⟩
          rw [nI_clamp (by omega), ry c h2]
          have := hn.2.2 c h1 h2
          have := hY c h2
          exact pk_le d (cY c) (fun _ => ⟨rfl, h0⟩) (fun q => by omega)
  rcases pk_ix x1 (n := C) (by omega) with h | h | ⟨c, hc, rfl⟩
  · exact ⟨fun _ => ⟨fun _ => none_ (Or.inl h), fun q => absurd rfl q⟩, fun q => absurd (Or.inl h) q⟩
  · have h' : nI n ≤ x1 := by
      rw [i_le] at h ⊢
      rw [i_lit (by omega)] at h ⊢
      omega
    exact ⟨fun _ => ⟨fun _ => none_ (Or.inr (Or.inl h)), fun q => absurd rfl q⟩, fun q => absurd (Or.inr h') q⟩
  · have n0 : ¬ nI c < 0 := nI_nlt (a := c) (b := 0) (by omega) (by omega)
    by_cases hcn : n ≤ c
    · have h' : nI n ≤ nI c := by rw [i_le, i_lit (by omega), i_lit (by omega)]; omega
      exact ⟨fun _ => ⟨fun _ => none_ (Or.inr (Or.inr ⟨c, hcn, hc, rfl⟩)), fun q => absurd rfl q⟩, fun q => absurd (Or.inr h') q⟩
    · have h' : ¬ nI n ≤ nI c := by rw [i_le, i_lit (by omega), i_lit (by omega)]; omega
      have hy := hn.2.1 c (by omega)
      refine ⟨fun q => ?_, fun _ => ⟨fun q => absurd q one0, fun _ => ?_⟩⟩
      · rcases q with q | q
        · exact absurd q n0
        · exact absurd q h'
      have ref : ∀ r : Int32, ((x2 < 0 ∨ nI W ≤ x2) → r = -1) → (∀ w, w < W → x2 = nI w → (¬ x3 = 0 → ((¬ x3 = 1 → r = -1) ∧ (x3 = 1 → r = mnI (N (16 * c + w))))) ∧ (x3 = 0 → r = nI (N (16 * c + w) % 8))) → wp_X8_why mm_thrown (nI d) (nI W) mm_callDay (nI C) mm_keptWhys mm_keptMinutes (nI c) x2 x3 (fun q t => r = q ∧ P t) := by
        intro r hr1 hr2
        unfold wp_X8_why
        refine br_f n0 (br_f (by rw [i_le, i_lit (by omega), i_lit (by omega)]; omega) ⟨vp_in_nI (by omega) (by omega), ?_⟩)
        rw [nI_clamp (by omega), ry c hc, isWorker_iff]
        refine pk_le d (cY c) (fun q => by omega) (fun _ => ?_)
        rcases pk_ix x2 (n := W) (by omega) with g | g | ⟨w, hw, rfl⟩
        · exact ⟨fun _ => ⟨fun q => absurd rfl q, fun _ => ⟨hr1 (Or.inl g), h0⟩⟩, fun q => absurd (Or.inl g) q⟩
        · exact ⟨fun _ => ⟨fun q => absurd rfl q, fun _ => ⟨hr1 (Or.inr g), h0⟩⟩, fun q => absurd (Or.inr g) q⟩
        · have ix : (16 : Int32) * nI c + nI w = nI (16 * c + w) := by rw [show (16 : Int32) = nI 16 from rfl, pk_mul, nI_add]
          have h2 := hr2 w hw rfl
          refine ⟨fun q => ?_, fun _ => ⟨fun _ => ?_, fun q => absurd q one0⟩⟩
          · exfalso
            rcases q with q | q
            · exact nI_nlt (a := w) (b := 0) (by omega) (by omega) q
            · rw [i_le, i_lit (by omega), i_lit (by omega)] at q; omega
          · rw [ix, nI_clamp (n := 16 * c + w) (by omega)]
            refine ⟨fun q => ⟨fun q2 => ⟨(h2.1 q).1 q2, h0⟩, fun q2 => ⟨vp_in_nI (by omega) (by omega), ?_, h0⟩⟩, fun q => ⟨vp_in_nI (by omega) (by omega), ?_, h0⟩⟩
            · rw [hk2 (by omega) _ (by omega)]; exact (h2.1 q).2 q2
            · rw [hk _ (by omega)]; exact h2.2 q
      rw [isBelow_iff]
      rcases pk_ix x2 (n := W) (by omega) with g | g | ⟨w, hw, rfl⟩
      · have := ref (-1) (fun _ => rfl) (fun w hw e => by
          exfalso; rw [e] at g; exact nI_nlt (a := w) (b := 0) (by omega) (by omega) g)
        exact ⟨fun _ => ⟨fun q => absurd rfl q, fun _ => this⟩, fun q => absurd (Or.inl g) q⟩
      · have := ref (-1) (fun _ => rfl) (fun w hw e => by
          exfalso; rw [e, i_le, i_lit (by omega), i_lit (by omega)] at g; omega)
        exact ⟨fun _ => ⟨fun q => absurd rfl q, fun _ => this⟩, fun q => absurd (Or.inr g) q⟩
      · have no : ¬ (nI w < 0 ∨ nI W ≤ nI w) := fun q => by
          rcases q with q | q
          · exact nI_nlt (a := w) (b := 0) (by omega) (by omega) q
          · rw [i_le, i_lit (by omega), i_lit (by omega)] at q; omega
        have uni : ∀ v, v < W → nI w = nI v → v = w := fun v hv e => ((nI_eq (by omega) (by omega)).mp e).symm
        refine ⟨fun q => absurd q no, fun _ => ⟨fun _ => ⟨fun q3 => ?_, fun q3 => ⟨fun q4 => ?_, fun q4 => ?_⟩⟩, fun q => absurd q one0⟩⟩
        · refine noted_c hf hN (by omega) (by omega) (ref _ (fun q => absurd q no) (fun v hv e => ?_))
          rw [uni v hv e]
          exact ⟨fun q => absurd q3 q, fun _ => rfl⟩
        · refine clock_c hf hN (by omega) (by omega) (ref _ (fun q => absurd q no) (fun v hv e => ?_))
          rw [uni v hv e]
          exact ⟨fun _ => ⟨fun q => absurd q4 q, fun _ => rfl⟩, fun q => absurd q q3⟩
        · refine ref _ (fun q => absurd q no) (fun v hv e => ?_)
          exact ⟨fun _ => ⟨fun _ => rfl, fun q => absurd q q4⟩, fun q => absurd q q3⟩
