/-! list: the k-th of a list who is free -/
noncomputable def frS (lw : Nat → Nat) (fr : Nat → Prop) : Nat → Nat → Nat → Option Nat
  | 0, _, _ => none
  | m + 1, i, left => match Classical.propDecidable (fr (lw i)) with
    | .isTrue _ => if left = 0 then some (lw i) else frS lw fr m (i + 1) (left - 1)
    | .isFalse _ => frS lw fr m (i + 1) left
theorem frS_t {lw : Nat → Nat} {fr : Nat → Prop} {m i left : Nat} (h : fr (lw i)) : frS lw fr (m + 1) i left = if left = 0 then some (lw i) else frS lw fr m (i + 1) (left - 1) := by
  rw [frS]
  split
  · rfl
  · exact absurd h (by assumption)
theorem frS_f {lw : Nat → Nat} {fr : Nat → Prop} {m i left : Nat} (h : ¬ fr (lw i)) : frS lw fr (m + 1) i left = frS lw fr m (i + 1) left := by
  rw [frS]
  split
  · exact absurd (by assumption) h
  · rfl
theorem fr_c {b n : Nat} {lw : Nat → Nat} {fr : Nat → Prop} {fl_lists fl_listSize fl_job : Nat → Int32} {K : Int32 → Prop} (hb : b < 3) (hn : n ≤ 16) (hs : fl_listSize b = nI n) (hl : ∀ k, k < n → lw k < 16 ∧ fl_lists (b * 16 + k) = nI (lw k)) (hj : ∀ w, w < 16 → (fl_job w = -1 ↔ fr w)) :
    ∀ m i left : Nat, i + m = n → left < 2147483648 → K (oi (frS lw fr m i left)) → wp_X2_freeOnList_b5 K fl_lists fl_listSize fl_job (nI b) (m + 1) (nI left) (nI i) := by
  have hin : vp_in (nI b) 3 := vp_in_nI hb (by omega)
  have hcb : (nI b).toNatClampNeg = b := nI_clamp (by omega)
  intro m
  induction m with
  | zero =>
    intro i left hi hL hK
    rw [wp_X2_freeOnList_b5, hcb, hs]
    exact ⟨hin, pk_le n i (fun _ => hK) (fun h => absurd h (by omega))⟩
  | succ m ih =>
    intro i left hi hL hK
    obtain ⟨l1, l2⟩ := hl i (by omega)
    have hx : nI b * 16 + nI i = nI (b * 16 + i) := by rw [show (16 : Int32) = nI 16 from rfl, pk_mul, nI_add]
    rw [wp_X2_freeOnList_b5, hcb, hs, hx, nI_clamp (show b * 16 + i < 2 ^ 31 by omega), l2]
    refine ⟨hin, pk_le n i (fun h => absurd h (by omega)) (fun _ => ⟨vp_in_nI (by omega) (by omega), fun y e => ?_⟩)⟩
    subst e
    rw [nI_clamp (show lw i < 2 ^ 31 by omega)]
    refine ⟨vp_in_nI l1 (by omega), ?_⟩
    by_cases c : fr (lw i)
    · rw [frS_t c] at hK
      refine ⟨fun q => absurd ((hj _ l1).mpr c) q, fun _ => ?_⟩
      by_cases z : left = 0
      · subst z
        rw [if_pos rfl] at hK
        exact ⟨fun q => absurd rfl q, fun _ => hK⟩
      · rw [if_neg z] at hK
        refine ⟨fun _ y9 e9 y10 e10 => ?_, fun q => absurd ((nI_eq (a := left) (b := 0) (by omega) (by omega)).mp q) z⟩
        obtain ⟨l', rfl⟩ : ∃ l', left = l' + 1 := ⟨left - 1, by omega⟩
        rw [e9, e10, nI_1, pk_m1]
        exact ih (i + 1) l' (by omega) (by omega) hK
    · rw [frS_f c] at hK
      refine ⟨fun _ y7 e7 => ?_, fun q => absurd ((hj _ l1).mp q) c⟩
      rw [e7, nI_1]
      exact ih (i + 1) left (by omega) hL hK
theorem fr_r {b n kk : Nat} {lw : Nat → Nat} {fr : Nat → Prop} {mm_keptRow mm_keptMany mm_keptOn : Nat → Int32} {th : Int32} {K : Int32 → Int32 → Prop} (hb : b < 3) (hn : n ≤ 16) (hkk : kk < 2147483648) (hs : mm_keptMany b = nI n) (hl : ∀ k, k < n → lw k < 16 ∧ mm_keptRow (16 * b + k) = nI (lw k)) (hj : ∀ w, w < 16 → (mm_keptOn w = 0 ↔ fr w)) :
    ∀ m i c : Nat, i + m = n → c ≤ kk → K (oi (frS lw fr m i (kk - c))) th → wp_X8_list_b25 K mm_keptRow mm_keptMany mm_keptOn (nI b) (nI kk) (m + 1) th (nI c) (nI i) := by
  have hin : vp_in (nI b) 3 := vp_in_nI hb (by omega)
  have hcb : (nI b).toNatClampNeg = b := nI_clamp (by omega)
  intro m
  induction m with
  | zero =>
    intro i c hi hc hK
    rw [wp_X8_list_b25, hcb, hs]
    exact ⟨hin, pk_le n i (fun _ => hK) (fun h => absurd h (by omega))⟩
  | succ m ih =>
    intro i c hi hc hK
    obtain ⟨l1, l2⟩ := hl i (by omega)
    have hx : 16 * nI b + nI i = nI (16 * b + i) := by rw [show (16 : Int32) = nI 16 from rfl, pk_mul, nI_add]
    rw [wp_X8_list_b25, hcb, hs, hx, nI_clamp (show 16 * b + i < 2 ^ 31 by omega), l2]
    refine ⟨hin, pk_le n i (fun h => absurd h (by omega)) (fun _ => ⟨vp_in_nI (by omega) (by omega), fun y e => ?_⟩)⟩
    subst e
    rw [nI_clamp (show lw i < 2 ^ 31 by omega)]
    refine ⟨vp_in_nI l1 (by omega), ?_⟩
    by_cases z : fr (lw i)
    · rw [frS_t z] at hK
      refine ⟨fun _ => ?_, fun q => absurd ((hj _ l1).mpr z) q⟩
      by_cases q : c = kk
      · subst q
        rw [if_pos (by omega)] at hK
        exact ⟨fun q => absurd rfl q, fun _ => hK⟩
      · rw [if_neg (by omega)] at hK
        refine ⟨fun _ y8 e8 y9 e9 => ?_, fun q2 => absurd ((nI_eq (by omega) (by omega)).mp q2) q⟩
        rw [e8, e9, nI_1, nI_1]
        exact ih (i + 1) (c + 1) (by omega) (by omega) (by rw [show kk - (c + 1) = kk - c - 1 by omega]; exact hK)
    · rw [frS_f z] at hK
      refine ⟨fun q => absurd ((hj _ l1).mp q) z, fun _ y10 e10 => ?_⟩
      rw [e10, nI_1]
      exact ih (i + 1) c (by omega) hc hK
