/-! calls and their order -/
def kap (cY cm : Nat → Nat) (k : Nat) : Nat := cY k * 65536 + cm k * 64 + k
def R_ord (C : Nat) (cY cm ord : Nat → Nat) : Prop :=
  (∀ i, i < C → ord i < C) ∧ (∀ i, i < C → cY (ord i) = cY i) ∧ (∀ i j, i < j → j < C → kap cY cm (ord i) < kap cY cm (ord j)) ∧ (∀ k, k < C → ∃ i, i < C ∧ ord i = k) ∧ (∀ i j, i ≤ j → j < C → cY i ≤ cY j)
def ins (ord : Nat → Nat) (x C : Nat) : Nat → Nat := fun k => if k < x then ord k else if k = x then C else ord (k - 1)
theorem ins_lt {ord : Nat → Nat} {x C k : Nat} (h : k < x) : ins ord x C k = ord k := if_pos h
theorem ins_eq {ord : Nat → Nat} {x C : Nat} : ins ord x C x = C := by unfold ins; rw [if_neg (by omega), if_pos rfl]
theorem ins_gt {ord : Nat → Nat} {x C k : Nat} (h : x < k) : ins ord x C k = ord (k - 1) := by unfold ins; rw [if_neg (by omega), if_neg (by omega)]
theorem ins_ok {C x d m : Nat} {cY cm ord : Nat → Nat} (hC : C < 60) (h : R_ord C cY cm ord) (hY : ∀ k, k < C → cY k ≤ d) (hm : ∀ k, k < C → cm k < 600) (hm2 : m < 600) (hx : x ≤ C)
    (h1 : ∀ k, x ≤ k → k < C → cY (ord k) = d ∧ m < cm (ord k)) (h2 : x = 0 ∨ (0 < x ∧ (cY (ord (x - 1)) ≠ d ∨ cm (ord (x - 1)) ≤ m))) : R_ord (C + 1) (ap cY C d) (ap cm C m) (ins ord x C) := by
  obtain ⟨o1, o2, o3, o4, o5⟩ := h
  have kC : kap (ap cY C d) (ap cm C m) C = d * 65536 + m * 64 + C := by unfold kap; rw [ap_s, ap_s]
  have kk : ∀ k, k < C → kap (ap cY C d) (ap cm C m) k = kap cY cm k := fun k hk => by unfold kap; rw [ap_n (by omega), ap_n (by omega)]
  have yy : ∀ k, k < C → ap cY C d k = cY k := fun k hk => ap_n (by omega)
  have dx : ∀ k, x ≤ k → k < C + 1 → ap cY C d k = d := fun k hk1 hk2 => by
    by_cases e : k = C
    · rw [e, ap_s]
    · rw [yy k (by omega)]
      have a := (h1 x (by omega) (by omega)).1
      rw [o2 x (by omega)] at a
      have := o5 x k hk1 (by omega)
      have := hY k (by omega)
      omega
  have low : ∀ i, i < x → kap cY cm (ord i) < d * 65536 + m * 64 + C := fun i hi => by
    rcases h2 with h2 | ⟨h2, h3⟩
    · omega
    · have a : kap cY cm (ord i) ≤ kap cY cm (ord (x - 1)) := by
        by_cases e : i = x - 1
        · rw [e]; exact Nat.le_refl _
        · exact Nat.le_of_lt (o3 i (x - 1) (by omega) (by omega))
      have b := hY (ord (x - 1)) (o1 _ (by omega))
      have c := o1 (x - 1) (by omega)
      have e := hm (ord (x - 1)) c
      unfold kap at a ⊢
      rcases h3 with h3 | h3
      · have : cY (ord (x - 1)) + 1 ≤ d := by omega
        have := Nat.mul_le_mul_right 65536 this
        omega
      · have := Nat.mul_le_mul_right 65536 b
        omega
  have high : ∀ k, x ≤ k → k < C → d * 65536 + m * 64 + C < kap cY cm (ord k) := fun k hk1 hk2 => by
    have := h1 k hk1 hk2
    unfold kap
    rw [this.1]
    omega
  refine ⟨fun i hi => ?_, fun i hi => ?_, fun i j hij hj => ?_, fun k hk => ?_, fun i j hij hj => ?_⟩
  · rcases Nat.lt_trichotomy i x with c | c | c
    · rw [ins_lt c]; have := o1 i (by omega); omega
    · rw [c, ins_eq]; omega
    · rw [ins_gt c]; have := o1 (i - 1) (by omega); omega
  · rcases Nat.lt_trichotomy i x with c | c | c
    · rw [ins_lt c, yy _ (o1 i (by omega)), yy i (by omega)]; exact o2 i (by omega)
    · rw [c, ins_eq, ap_s, dx x (by omega) (by omega)]
    · rw [ins_gt c, yy _ (o1 (i - 1) (by omega)), dx i (by omega) (by omega)]; exact (h1 (i - 1) (by omega) (by omega)).1
  · rcases Nat.lt_trichotomy i x with c | c | c
    · rw [ins_lt c, kk _ (o1 i (by omega))]
      rcases Nat.lt_trichotomy j x with e | e | e
      · rw [ins_lt e, kk _ (o1 j (by omega))]; exact o3 i j hij (by omega)
      · rw [e, ins_eq, kC]; exact low i c
      · rw [ins_gt e, kk _ (o1 (j - 1) (by omega))]
        exact o3 i (j - 1) (by omega) (by omega)
    · rw [c, ins_eq, kC, ins_gt (by omega), kk _ (o1 (j - 1) (by omega))]
      exact high (j - 1) (by omega) (by omega)
    · rw [ins_gt c, ins_gt (by omega), kk _ (o1 (i - 1) (by omega)), kk _ (o1 (j - 1) (by omega))]
      exact o3 (i - 1) (j - 1) (by omega) (by omega)
  · by_cases e : k = C
    · exact ⟨x, by omega, by rw [ins_eq, e]⟩
    · obtain ⟨i, hi, rfl⟩ := o4 k (by omega)
      by_cases c : i < x
      · exact ⟨i, by omega, ins_lt c⟩
      · exact ⟨i + 1, by omega, by rw [ins_gt (by omega)]; rfl⟩
  · by_cases e : j = C
    · rw [e, ap_s]
      by_cases c : i = C
      · rw [c, ap_s]; exact Nat.le_refl _
      · rw [yy i (by omega)]; exact hY i (by omega)
    · rw [yy i (by omega), yy j (by omega)]; exact o5 i j hij (by omega)
/-- the class enters a call into the order -/
theorem enter_c {C d m : Nat} {cY cm ord : Nat → Nat} {fm fd : Nat → Int32} {K : (Nat → Int32) → Prop} (hC : C < 60) (h : R_ord C cY cm ord) (hY : ∀ k, k < C → cY k ≤ d) (hd : d < 100) (hm : ∀ k, k < C → cm k < 600) (hm2 : m < 600)
    (rm : rw_ (C + 1) fm (ap cm C m)) (ry : rw_ (C + 1) fd (ap cY C d))
    (hK : ∀ (x : Nat) (f : Nat → Int32), x ≤ C → rw_ (C + 1) f (ins ord x C) → R_ord (C + 1) (ap cY C d) (ap cm C m) (ins ord x C) → K f) :
    ∀ (x : Nat) (f : Nat → Int32), x ≤ C → (∀ k, x ≤ k → k < C → cY (ord k) = d ∧ m < cm (ord k)) → (∀ k, k < x → f k = nI (ord k)) → (∀ k, x < k → k < C + 1 → f k = nI (ord (k - 1))) →
    wp_X0_enterOrder_b2 K fm fd (nI C) (x + 1) f (nI x) := by
  have fin : ∀ (x : Nat) (f : Nat → Int32), x ≤ C → (∀ k, x ≤ k → k < C → cY (ord k) = d ∧ m < cm (ord k)) → (∀ k, k < x → f k = nI (ord k)) → (∀ k, x < k → k < C + 1 → f k = nI (ord (k - 1))) → (x = 0 ∨ (0 < x ∧ (cY (ord (x - 1)) ≠ d ∨ cm (ord (x - 1)) ≤ m))) → K (upd f x (nI C)) := by
    intro x f hx h1 h2 h3 h4
    refine hK x _ hx (fun k hk => ?_) (ins_ok hC h hY hm hm2 hx h1 h4)
    rcases Nat.lt_trichotomy k x with c | c | c
    · rw [ins_lt c, pk_un (by omega)]; exact h2 k c
    · rw [c, ins_eq, pk_us]
    · rw [ins_gt c, pk_un (by omega)]; exact h3 k c hk
  intro x
  induction x with
  | zero =>
    intro f hx h1 h2 h3
    rw [wp_X0_enterOrder_b2]
    refine pk_le 0 0 (fun _ => ⟨vp_in_nI (by omega) (by omega), ?_⟩) (fun q => by omega)
    rw [nI_clamp (by omega)]
    exact fin 0 f hx h1 h2 h3 (Or.inl rfl)
  | succ x ih =>
    intro f hx h1 h2 h3
    rw [wp_X0_enterOrder_b2]
    have s1 : nI (x + 1) - 1 = nI x := by rw [show (1 : Int32) = nI 1 from rfl, pk_sub (by omega)]; rfl
    have s2 : nI (x + 1) + (-1) = nI x := pk_m1 _
    have ox := h.1 x (by omega)
    have bY := hY (ord x) ox
    have bm := hm (ord x) ox
    have f1 : fd (ord x) = nI (cY (ord x)) := by rw [ry _ (by omega), ap_n (by omega)]
    have f2 : fm (ord x) = nI (cm (ord x)) := by rw [rm _ (by omega), ap_n (by omega)]
    have f3 : fd C = nI d := by rw [ry _ (by omega), ap_s]
    have f4 : fm C = nI m := by rw [rm _ (by omega), ap_s]
    refine pk_le (x + 1) 0 (fun q => by omega) (fun _ => ?_)
    rw [s1, s2, nI_clamp (n := x) (by omega), h2 x (by omega)]
    refine ⟨vp_in_nI (by omega) (by omega), ?_⟩
    unfold wp_X0_comesAhead
    rw [nI_clamp (n := ord x) (by omega), nI_clamp (n := C) (by omega), f1, f2, f3, f4, nI_clamp (n := x + 1) (by omega)]
    have done : (cY (ord x) ≠ d ∨ cm (ord x) ≤ m) → (((0 : Int32) = 0 → vp_in (nI (x + 1)) 60 ∧ K (upd f (x + 1) (nI C))) ∧ (¬ (0 : Int32) = 0 → vp_in (nI x) 60 ∧ ∀ (y8 : Int32), y8 = nI (ord x) → vp_in (nI (x + 1)) 60 ∧ ∀ (y10 : Int32), y10 = nI x → wp_X0_enterOrder_b2 K fm fd (nI C) (x + 1) (upd f (x + 1) y8) y10)) :=
      fun q => ⟨fun _ => ⟨vp_in_nI (by omega) (by omega), fin (x + 1) f hx h1 h2 h3 (Or.inr ⟨by omega, q⟩)⟩, fun z => absurd rfl z⟩
    refine ⟨vp_in_nI (by omega) (by omega), vp_in_nI (by omega) (by omega), fun q => ?_, fun q => ⟨vp_in_nI (by omega) (by omega), vp_in_nI (by omega) (by omega), ?_⟩⟩
    · exact done (Or.inl (fun z => q (by rw [z])))
    · have qd : cY (ord x) = d := (nI_eq (by omega) (by omega)).mp q
      refine pk_le (cm (ord x)) m (fun z => done (Or.inr z)) (fun z => ⟨fun w => absurd w one0, fun _ => ⟨vp_in_nI (by omega) (by omega), ?_⟩⟩)
      rintro _ rfl
      refine ⟨vp_in_nI (by omega) (by omega), ?_⟩
      rintro _ rfl
      refine ih _ (by omega) (fun k hk1 hk2 => ?_) (fun k hk => ?_) (fun k hk1 hk2 => ?_)
      · by_cases e : k = x
        · rw [e]; exact ⟨qd, z⟩
        · exact h1 k (by omega) hk2
      · rw [pk_un (by omega)]; exact h2 k (by omega)
      · by_cases e : k = x + 1
        · subst e; rw [pk_us]; rfl
        · rw [pk_un e]; exact h3 k (by omega) hk2
