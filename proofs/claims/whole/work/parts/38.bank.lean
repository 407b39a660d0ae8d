/-! bank: hours times what the fund says, summed over days -/
def sumN (f : Nat → Nat) : Nat → Nat
  | 0 => 0
  | n + 1 => sumN f n + f n
theorem sumN_congr {f g : Nat → Nat} : ∀ {n : Nat}, (∀ e, e < n → f e = g e) → sumN f n = sumN g n
  | 0, _ => rfl
  | n + 1, h => by rw [sumN, sumN, h n (by omega), sumN_congr (fun e he => h e (by omega))]
theorem sumN_one {f g : Nat → Nat} {e0 v : Nat} : ∀ {n : Nat}, e0 < n → f e0 = 0 → g e0 = v → (∀ e, e < n → e ≠ e0 → g e = f e) → sumN g n = sumN f n + v
  | 0, h, _, _, _ => by omega
  | n + 1, h, h1, h2, h3 => by
    rw [sumN, sumN]
    by_cases c : e0 = n
    · subst c
      rw [h1, h2, sumN_congr (fun e he => h3 e (by omega) (by omega))]
      omega
    · rw [h3 n (by omega) (fun q => c q.symm), sumN_one (n := n) (by omega) h1 h2 (fun e he => h3 e (by omega))]
      omega
def hrN (sW sD sH sT : Nat → Nat) (w known e : Nat) : Nat → Nat
  | 0 => 0
  | n + 1 => if sW n = w ∧ sD n = e ∧ sT n ≤ known then sH n else hrN sW sD sH sT w known e n
theorem hrN_last {sW sD sH sT : Nat → Nat} {w known e k : Nat} (hk : sW k = w ∧ sD k = e ∧ sT k ≤ known) : ∀ {n : Nat}, k < n → (∀ j, k < j → j < n → ¬ (sW j = w ∧ sD j = e ∧ sT j ≤ known)) → hrN sW sD sH sT w known e n = sH k
  | 0, h, _ => by omega
  | n + 1, h, hj => by
    rw [hrN]
    by_cases c : k = n
    · subst c; rw [if_pos hk]
    · rw [if_neg (hj n (by omega) (by omega))]
      exact hrN_last hk (by omega) (fun j h1 h2 => hj j h1 (by omega))
theorem hrN_le {sW sD sH sT : Nat → Nat} {w known e : Nat} : ∀ {n : Nat}, (∀ k, k < n → sH k ≤ 24) → hrN sW sD sH sT w known e n ≤ 24
  | 0, _ => by rw [hrN]; omega
  | n + 1, h => by
    rw [hrN]
    split
    · exact h n (by omega)
    · exact hrN_le (fun k hk => h k (by omega))
def dn (i : Nat) : Int32 := match i with | 0 => -1 | k + 1 => nI k
theorem dn_pred (k : Nat) : nI k + (-1) = dn k := by
  cases k with
  | zero => rfl
  | succ k => exact pk_m1 k
theorem dn_sub (k : Nat) : nI k - 1 = dn k := by
  cases k with
  | zero => rfl
  | succ k => exact nI_pred k
theorem sum_cls {d S T w fund known : Nat} {sW sD sH sT tF tV tU : Nat → Nat} {tS : Nat → Nat → Nat} {sh_worker sh_day sh_hours sh_told sh_dayTaken : Nat → Int32} {sh_size : Int32} {mm_hourWorker mm_hourDay mm_hourTold mm_hourMany : Nat → Int32} {mm_hours : Int32} {ru_from ru_voted ru_undone ru_says : Nat → Int32} {ru_texts : Int32} {mm_toldOn mm_fromDay mm_undoneOn mm_values : Nat → Int32} {mm_texts : Int32} {K : Int32 → (Nat → Int32) → Prop}
    (hR : R_rules d T tF tV tU tS ru_from ru_voted ru_undone ru_says ru_texts mm_toldOn mm_fromDay mm_undoneOn mm_values mm_texts) (hH : R_sheet d S sW sD sH sT sh_worker sh_day sh_hours sh_told sh_size mm_hourWorker mm_hourDay mm_hourTold mm_hourMany mm_hours)
    (hd : d < 100) (hw : w < 16) (hf : fund < 3) (hkn : known < 100) (hK : ∀ g, K (nI (sumN (fun e => hrN sW sD sH sT w known e S * lawS T tF tV tU tS (5 + fund) e known) 100)) g) :
    wp_X5_sum sh_worker sh_day sh_hours sh_told sh_dayTaken sh_size ru_from ru_voted ru_undone ru_says ru_texts (nI w) (nI fund) (nI known) K := by
  obtain ⟨hS, rfl, rfl, w1, -, d1, -, h1, -, t1, -, hrg⟩ := hH
  have loop : ∀ i : Nat, i ≤ S → ∀ (tk : Nat → Bool) (tn : Nat → Int32), (∀ e, e < 100 → tn e = if tk e = true then 1 else 0) → (∀ e, e < 100 → (tk e = true ↔ ∃ k, i ≤ k ∧ k < S ∧ sW k = w ∧ sD k = e ∧ sT k ≤ known)) →
      wp_X5_sum_b19 K sh_worker sh_day sh_hours sh_told ru_from ru_voted ru_undone ru_says ru_texts (nI w) (nI fund) (nI known) (i + 1) tn (nI (sumN (fun e => if tk e = true then hrN sW sD sH sT w known e S * lawS T tF tV tU tS (5 + fund) e known else 0) 100)) (dn i) := by
    intro i
    induction i with
    | zero =>
      intro _ tk tn h2 h3
      rw [wp_X5_sum_b19]
      refine br_t (by decide) ?_
      rw [sumN_congr (g := fun e => hrN sW sD sH sT w known e S * lawS T tF tV tU tS (5 + fund) e known) (fun e he => ?_)]
      · exact hK tn
      · by_cases c : tk e = true
        · rw [if_pos c]
        · rw [if_neg c]
          have hz : ∀ n, n ≤ S → hrN sW sD sH sT w known e n = 0 := by
            intro n
            induction n with
            | zero => intro _; rfl
            | succ n ihn =>
              intro hn
              rw [hrN, if_neg (fun q => c ((h3 e he).mpr ⟨n, by omega, by omega, q⟩))]
              exact ihn (by omega)
          rw [hz S (Nat.le_refl S), Nat.zero_mul]
    | succ k ih =>
      intro hk tk tn h2 h3
      have hkS : k < S := by omega
      obtain ⟨g1, g2, g3, g4⟩ := hrg k hkS
      have hin : vp_in (nI k) 150 := vp_in_nI (by omega) (by omega)
      have hcl : (nI k).toNatClampNeg = k := nI_clamp (by omega)
      have hcd : (nI (sD k)).toNatClampNeg = sD k := nI_clamp (by omega)
      have same : (∀ e, e < 100 → (sW k = w ∧ sD k = e ∧ sT k ≤ known) → tk e = true) → ∀ y : Int32, y = nI k + (-1) → wp_X5_sum_b19 K sh_worker sh_day sh_hours sh_told ru_from ru_voted ru_undone ru_says ru_texts (nI w) (nI fund) (nI known) (k + 1) tn (nI (sumN (fun e => if tk e = true then hrN sW sD sH sT w known e S * lawS T tF tV tU tS (5 + fund) e known else 0) 100)) y := by
        intro hm y hy
        rw [hy, dn_pred]
        refine ih (by omega) tk tn h2 (fun e he => ?_)
        rw [h3 e he]
        constructor
        · intro ⟨j, a, b⟩; exact ⟨j, by omega, b⟩
        · intro ⟨j, a, b⟩
          by_cases c : j = k
          · subst c; exact (h3 e he).mp (hm e he b.2)
          · exact ⟨j, by omega, b⟩
      rw [wp_X5_sum_b19]
      show (nI k < 0 → _) ∧ (¬ nI k < 0 → _)
      refine br_f (nI_pos (by omega)) ⟨hin, ?_⟩
      show (¬ sh_worker (nI k).toNatClampNeg = nI w → _) ∧ _
      rw [show (dn (k + 1)) = nI k from rfl, hcl, w1 k hkS, t1 k hkS, d1 k hkS, h1 k hkS, hcd]
      by_cases a : sW k = w
      · refine ⟨fun q => absurd (by rw [a]) q, fun _ => ⟨hin, ?_⟩⟩
        refine pk_lt known (sT k) (fun f => same (fun e he q => by omega)) (fun f => ⟨hin, vp_in_nI (by omega) (by omega), ?_⟩)
        rw [h2 (sD k) (by omega)]
        by_cases c : tk (sD k) = true
        · rw [if_pos c]
          exact ⟨fun _ => same (fun e he q => by rw [← q.2.1]; exact c), fun q => absurd q (by decide)⟩
        · rw [if_neg c]
          refine ⟨fun q => absurd rfl q, fun _ => ⟨hin, vp_in_nI (by omega) (by omega), hin, hin, ?_⟩⟩
          rw [show (5 : Int32) + nI fund = nI (5 + fund) from nI_add 5 fund]
          refine said_ok hR hd (by omega) (by omega) hkn (fun y17 e17 y18 e18 => ?_)
          have hlast : hrN sW sD sH sT w known (sD k) S = sH k := hrN_last ⟨a, rfl, f⟩ hkS (fun j q1 q2 q3 => c ((h3 (sD k) (by omega)).mpr ⟨j, by omega, q2, q3⟩))
          have hsum : sumN (fun e => if (fun e => if e = sD k then true else tk e) e = true then hrN sW sD sH sT w known e S * lawS T tF tV tU tS (5 + fund) e known else 0) 100 = sumN (fun e => if tk e = true then hrN sW sD sH sT w known e S * lawS T tF tV tU tS (5 + fund) e known else 0) 100 + sH k * lawS T tF tV tU tS (5 + fund) (sD k) known := by
            refine sumN_one (e0 := sD k) (by omega) (by simp [c]) (by simp [hlast]) (fun e he hne => by simp [hne])
          rw [e17, e18, dn_pred, pk_mul, nI_add, ← hsum]
          refine ih (by omega) (fun e => if e = sD k then true else tk e) _ (fun e he => ?_) (fun e he => ?_)
          · by_cases z : e = sD k
            · subst z; simp [pk_us]
            · rw [pk_un z, h2 e he]; simp [z]
          · by_cases z : e = sD k
            · subst z
              simp only [if_true]
              exact ⟨fun _ => ⟨k, by omega, hkS, a, rfl, f⟩, fun _ => trivial⟩
            · simp only [z, if_false]
              rw [h3 e he]
              constructor
              · intro ⟨j, q1, q2⟩; exact ⟨j, by omega, q2⟩
              · intro ⟨j, q1, q2⟩
                by_cases y : j = k
                · subst y; exact absurd q2.2.2.1.symm z
                · exact ⟨j, by omega, q2⟩
      · refine ⟨fun _ => same (fun e he q => absurd q.1 a), fun q => absurd ((nI_eq (by omega) (by omega)).mp q) a⟩
  unfold wp_X5_sum
  intro y e
  refine ⟨S + 1, ?_⟩
  rw [e, dn_sub]
  have h0 := loop S (Nat.le_refl S) (fun _ => false) (mk_fill 100 0 sh_dayTaken) (fun e he => by simp [mk_fill, he]) (fun e he => by
    constructor
    · intro q; cases q
    · intro ⟨j, q1, q2, q3⟩; omega)
  have hz : sumN (fun e => if (fun _ => false) e = true then hrN sW sD sH sT w known e S * lawS T tF tV tU tS (5 + fund) e known else 0) 100 = 0 := by
    rw [sumN_congr (g := fun _ => 0) (fun e he => by simp)]
    decide
  rw [hz] at h0
  exact h0
