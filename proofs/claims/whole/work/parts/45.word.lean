/-! words, as the class finds them -/
def chN (k i : Nat) : Nat := (mk_ch k i).toNatClampNeg
theorem chN_ok : ∀ k, k < 7 → ∀ i, i < mk_len.getD k 0 → mk_ch k i = nI (chN k i) ∧ chN k i < 128 := by decide +kernel
theorem len_ok : ∀ k, k < 7 → 4 ≤ mk_len.getD k 0 ∧ mk_len.getD k 0 ≤ 37 := by decide +kernel
def wd (tb : Nat → Nat) (s e k : Nat) : Prop := e - s = mk_len.getD k 0 ∧ ∀ i, i < mk_len.getD k 0 → tb (s + i) = chN k i
theorem isToken_ok {L N s e k : Nat} {tb : Nat → Nat} {f g : Nat → Int32} {K : Int32 → Prop} (hR : R_text L N tb f g) (hse : s ≤ e) (heN : e ≤ N) (hk : k < 7) (h1 : wd tb s e k → K 1) (h0 : ¬ wd tb s e k → K 0) : wp_X3_isToken (nI e) (nI s) f (nI L) k K := by
  have hL := hR.1
  have hN := hR.2.1
  obtain ⟨l1, l2⟩ := len_ok k hk
  unfold wp_X3_isToken
  refine ⟨hk, ?_⟩
  rw [pk_sub hse]
  refine pk_eq (e - s) (mk_len.getD k 0) (fun he => ?_) (fun he => h0 (fun c => he c.1))
  have loop : ∀ m i : Nat, i + m = mk_len.getD k 0 → (∀ j, j < i → tb (s + j) = chN k j) → wp_X3_isToken_b20 K (nI s) f (nI L) k (m + 1) (nI i) := by
    intro m
    induction m with
    | zero =>
      intro i hi hj
      rw [wp_X3_isToken_b20]
      exact ⟨hk, pk_le (mk_len.getD k 0) i (fun _ => h1 ⟨he, fun j hj' => hj j (by omega)⟩) (fun h => absurd h (by omega))⟩
    | succ m ih =>
      intro i hi hj
      obtain ⟨c1, c2⟩ := chN_ok k hk i (by omega)
      have ht := (hR.2.2 (s + i) (by omega)).1
      rw [wp_X3_isToken_b20]
      refine ⟨hk, pk_le (mk_len.getD k 0) i (fun h => absurd h (by omega)) (fun _ => ?_)⟩
      rw [nI_add]
      refine byte_c hR (by omega) ⟨hk, vp_in_nI (by omega) (by omega), ?_⟩
      rw [nI_clamp (show i < 2 ^ 31 by omega), c1]
      refine pk_eq (tb (s + i)) (chN k i) (fun q y e6 => ?_) (fun q => h0 (fun c => q (c.2 i (by omega))))
      rw [e6, nI_1]
      refine ih (i + 1) (by omega) (fun j hj' => ?_)
      by_cases z : j = i
      · subst z; exact q
      · exact hj j (by omega)
  exact ⟨mk_len.getD k 0 + 1, loop (mk_len.getD k 0) 0 (by omega) (fun j hj => by omega)⟩
theorem mk_sp_ok : ∀ k, k < 6 → mk_sp (nI k) = k := by decide +kernel
noncomputable def wF (tb : Nat → Nat) (s e : Nat) : Nat → Option Nat
  | 0 => none
  | k + 1 => match Classical.propDecidable (wd tb s e k) with
    | .isTrue _ => some k
    | .isFalse _ => wF tb s e k
theorem wF_t {tb : Nat → Nat} {s e k : Nat} (h : wd tb s e k) : wF tb s e (k + 1) = some k := by
  rw [wF]
  split
  · rfl
  · exact absurd h (by assumption)
theorem wF_f {tb : Nat → Nat} {s e k : Nat} (h : ¬ wd tb s e k) : wF tb s e (k + 1) = wF tb s e k := by
  rw [wF]
  split
  · exact absurd (by assumption) h
  · rfl
def wkd (o : Option Nat) : Int32 := match o with | none => 4 | some _ => 1
def wvl (v : Int32) (o : Option Nat) : Int32 := match o with | none => v | some k => nI k
theorem words_c {L N s e : Nat} {tb : Nat → Nat} {f g : Nat → Int32} {v : Int32} {K : Int32 → Int32 → Int32 → Prop} (hR : R_text L N tb f g) (hse : s ≤ e) (heN : e ≤ N) (hK : K (nI e) (wkd (wF tb s e 6)) (wvl v (wF tb s e 6))) :
    ∃ n48 : Nat, wp_X3_takeWord_b48 K (nI s) f (nI L) n48 (nI e) 4 v 0 := by
  have loop : ∀ m k : Nat, k + m = 6 → wp_X3_takeWord_b48 K (nI s) f (nI L) (m + 1) (nI e) (wkd (wF tb s e k)) (wvl v (wF tb s e k)) (nI k) := by
    intro m
    induction m with
    | zero =>
      intro k hk
      have hk : k = 6 := by omega
      subst hk
      rw [wp_X3_takeWord_b48]
      exact pk_le 6 6 (fun _ => hK) (fun h => absurd h (by omega))
    | succ m ih =>
      intro k hk
      rw [wp_X3_takeWord_b48]
      refine pk_le 6 k (fun h => absurd h (by omega)) (fun _ => ?_)
      rw [mk_sp_ok k (by omega)]
      refine isToken_ok hR hse heN (by omega) (fun h => ?_) (fun h => ?_)
      · refine ⟨fun q => absurd q (by decide), fun _ y e6 => ?_⟩
        have := ih (k + 1) (by omega)
        rw [wF_t h] at this
        rw [e6, nI_1]
        exact this
      · refine ⟨fun _ y e5 => ?_, fun q => absurd rfl q⟩
        have := ih (k + 1) (by omega)
        rw [wF_f h] at this
        rw [e5, nI_1]
        exact this
  exact ⟨7, by have := loop 6 0 (by omega); rw [wF] at this; exact this⟩
