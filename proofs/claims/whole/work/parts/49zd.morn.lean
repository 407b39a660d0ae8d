/-! morning -/
def RK (bk : Nat → Nat) (d : Nat) (s : FS) (kr km ko kc kf kw ki : Nat → Int32) : Prop :=
  R_rows bk s.1 kr km ∧ (∀ w, w < 16 → ko w = onI (s.2.1 w)) ∧ (0 < d → ∀ w, w < 16 → kc w = sv (s.2.1 w)) ∧ (∀ w, w < 16 → kf w = s.2.2.2.1 w) ∧ (∀ j, j < 960 → kw j = nI (s.2.2.2.2.1 j % 8)) ∧ (0 < d → ∀ j, j < 960 → ki j = mnI (s.2.2.2.2.1 j))
theorem copy_r {bk dy : Nat → Nat} {s : FS} {d : Nat} {td th alls sm ck lf dn : Int32} {row many on jl jd jc rf wy mi sn kw ki kr km ko kc kf : Nat → Int32}
    {K : Int32 → Int32 → Int32 → (Nat → Int32) → (Nat → Int32) → (Nat → Int32) → (Nat → Int32) → (Nat → Int32) → (Nat → Int32) → (Nat → Int32) → (Nat → Int32) → (Nat → Int32) → Int32 → Int32 → Int32 → Int32 → (Nat → Int32) → (Nat → Int32) → (Nat → Int32) → (Nat → Int32) → (Nat → Int32) → (Nat → Int32) → (Nat → Int32) → (Nat → Int32) → Int32 → Prop}
    (hM : RM bk dy s row many on jl jd jc rf wy mi) (hd : s.1.Nodup) (hQ : ∀ w, w ∈ s.1 → w < 16)
    (hK : ∀ kw' ki' kr' km' ko' kc' kf', RK bk (d + 1) s kr' km' ko' kc' kf' kw' ki' → K sm th (td + 1) row many on jl jd jc rf wy mi sm ck lf dn sn kw' ki' kr' km' ko' kc' kf' (alls + sm)) :
    ∃ n29, wp_X8_morning_b29 K td kr km ko kc kf alls n29 th row many on jl jd jc rf wy mi sm ck lf dn sn kw ki 0 := by
  obtain ⟨M1, M2, M3, M4, M5, M6⟩ := hM
  have b119 : ∀ m i (kw ki kr km ko kc kf : Nat → Int32), i + m = 16 → (∀ j, j < 960 → kw j = wy j ∧ ki j = mi j) → (∀ j, j < 48 → kr j = row j) → (∀ b, b < 3 → km b = many b) → (∀ w, w < i → ko w = onI (s.2.1 w) ∧ kc w = sv (s.2.1 w) ∧ kf w = s.2.2.2.1 w) →
      wp_X8_morning_b119 K td alls (m + 1) th row many on jl jd jc rf wy mi sm ck lf dn sn kw ki kr km ko kc kf (nI i) := by
    intro m
    induction m with
    | zero =>
      intro i kw ki kr km ko kc kf hi h1 h2 h3 h4
      have : i = 16 := by omega
      subst this
      rw [wp_X8_morning_b119]
      refine pk_le 16 16 (fun _ => ?_) (fun q => by omega)
      rintro _ rfl _ rfl
      refine hK _ _ _ _ _ _ _ ⟨fun b hb => ⟨by rw [h3 b hb]; exact (M1 b hb).1, RwL_congr (fun k k1 k2 => h2 k ?_) (M1 b hb).2⟩, fun w hw => (h4 w hw).1, fun _ w hw => (h4 w hw).2.1, fun w hw => (h4 w hw).2.2, fun j hj => by rw [(h1 j hj).1]; exact (M6 j hj).1, fun _ j hj => by rw [(h1 j hj).2]; exact (M6 j hj).2⟩
      have : (QB bk s.1 b).length ≤ 16 := nodup_len (QB_nodup hd) (fun x hx => hQ x (QB_mem.mp hx).1)
      omega
    | succ m ih =>
      intro i kw ki kr km ko kc kf hi h1 h2 h3 h4
      have v := vp_in_nI (N := 16) (show i < 16 by omega) (by omega)
      rw [wp_X8_morning_b119]
      refine pk_le 16 i (fun q => by omega) (fun _ => ⟨v, ?_⟩)
      rintro _ rfl
      refine ⟨v, v, ?_⟩
      rw [nI_clamp (n := i) (by omega), M2 i (by omega)]
      have nx : ∀ x : Int32, x = sv (s.2.1 i) → ∀ o : Int32, o = onI (s.2.1 i) → wp_X8_morning_b161 K (fun a1 a2 a3 a4 a5 a6 a7 a8 a9 a10 a11 a12 a13 a14 a15 a16 a17 a18 a19 a20 a21 a22 a23 => wp_X8_morning_b119 K td alls (m + 1) a1 a2 a3 a4 a5 a6 a7 a8 a9 a10 a11 a12 a13 a14 a15 a16 a17 a18 a19 a20 a21 a22 a23) th row many on jl jd jc rf wy mi sm ck lf dn sn kw ki kr km (upd ko i o) kc kf (nI i) x (nI i) := by
        intro x hx o ho
        unfold wp_X8_morning_b161
        refine ⟨v, v, ?_⟩
        rintro _ rfl
        refine ⟨v, ?_⟩
        rintro _ rfl
        rw [nI_1, nI_clamp (n := i) (by omega), M5 i (by omega)]
        refine ih (i + 1) kw ki kr km _ _ _ (by omega) h1 h2 h3 (fun w hw => ?_)
        by_cases c : w = i
        · subst c; rw [pk_us, pk_us, pk_us]; exact ⟨ho, hx, rfl⟩
        · rw [pk_un c, pk_un c, pk_un c]; exact h4 w (by omega)
      by_cases c : s.2.1 i = 1000
      · rw [c, onI_t]
        refine ⟨fun _ => ?_, fun q => absurd rfl q⟩
        rw [nar0]
        exact nx (-1) (by rw [c]; rfl) 0 (by rw [c]; rfl)
      · rw [onI_f c]
        refine ⟨fun q => absurd q one0, fun _ => ⟨v, ?_⟩⟩
        rw [nar1, M4 i (by omega)]
        exact nx _ rfl 1 (by rw [onI_f c])
  have b94 : ∀ m i (kw ki kr km : Nat → Int32), i + m = 3 → (∀ j, j < 960 → kw j = wy j ∧ ki j = mi j) → (∀ j, j < 48 → kr j = row j) → (∀ b, b < i → km b = many b) →
      wp_X8_morning_b94 K td ko kc kf alls (m + 1) th row many on jl jd jc rf wy mi sm ck lf dn sn kw ki kr km (nI i) := by
    intro m
    induction m with
    | zero =>
      intro i kw ki kr km hi h1 h2 h3
      have : i = 3 := by omega
      subst this
      rw [wp_X8_morning_b94]
      exact pk_le 3 3 (fun _ => ⟨17, b119 16 0 kw ki kr km ko kc kf (by omega) h1 h2 h3 (fun w hw => by omega)⟩) (fun q => by omega)
    | succ m ih =>
      intro i kw ki kr km hi h1 h2 h3
      have v := vp_in_nI (N := 3) (show i < 3 by omega) (by omega)
      rw [wp_X8_morning_b94]
      refine pk_le 3 i (fun q => by omega) (fun _ => ⟨v, ?_⟩)
      rintro _ rfl
      refine ⟨v, ?_⟩
      rintro _ rfl
      rw [nI_1, nI_clamp (n := i) (by omega)]
      refine ih (i + 1) kw ki kr _ (by omega) h1 h2 (fun b hb => ?_)
      by_cases c : b = i
      · subst c; rw [pk_us]
      · rw [pk_un c]; exact h3 b (by omega)
  have b68 : ∀ m i (kw ki kr : Nat → Int32), i + m = 48 → (∀ j, j < 960 → kw j = wy j ∧ ki j = mi j) → (∀ j, j < i → kr j = row j) →
      wp_X8_morning_b68 K td km ko kc kf alls (m + 1) th row many on jl jd jc rf wy mi sm ck lf dn sn kw ki kr (nI i) := by
    intro m
    induction m with
    | zero =>
      intro i kw ki kr hi h1 h2
      have : i = 48 := by omega
      subst this
      rw [wp_X8_morning_b68]
      exact pk_le 48 48 (fun _ => ⟨4, b94 3 0 kw ki kr km (by omega) h1 h2 (fun w hw => by omega)⟩) (fun q => by omega)
    | succ m ih =>
      intro i kw ki kr hi h1 h2
      have v := vp_in_nI (N := 48) (show i < 48 by omega) (by omega)
      rw [wp_X8_morning_b68]
      refine pk_le 48 i (fun q => by omega) (fun _ => ⟨v, ?_⟩)
      rintro _ rfl
      refine ⟨v, ?_⟩
      rintro _ rfl
      rw [nI_1, nI_clamp (n := i) (by omega)]
      refine ih (i + 1) kw ki _ (by omega) h1 (fun b hb => ?_)
      by_cases c : b = i
      · subst c; rw [pk_us]
      · rw [pk_un c]; exact h2 b (by omega)
  have b29 : ∀ m i (kw ki : Nat → Int32), i + m = 960 → (∀ j, j < i → kw j = wy j ∧ ki j = mi j) →
      wp_X8_morning_b29 K td kr km ko kc kf alls (m + 1) th row many on jl jd jc rf wy mi sm ck lf dn sn kw ki (nI i) := by
    intro m
    induction m with
    | zero =>
      intro i kw ki hi h1
      have : i = 960 := by omega
      subst this
      rw [wp_X8_morning_b29]
      exact pk_le 960 960 (fun _ => ⟨49, b68 48 0 kw ki kr (by omega) h1 (fun w hw => by omega)⟩) (fun q => by omega)
    | succ m ih =>
      intro i kw ki hi h1
      have v := vp_in_nI (N := 960) (show i < 960 by omega) (by omega)
      rw [wp_X8_morning_b29]
      refine pk_le 960 i (fun q => by omega) (fun _ => ⟨v, ?_⟩)
      rintro _ rfl
      refine ⟨v, v, ?_⟩
      rintro _ rfl
      refine ⟨v, ?_⟩
      rintro _ rfl
      rw [nI_1, nI_clamp (n := i) (by omega)]
      refine ih (i + 1) _ _ (by omega) (fun b hb => ?_)
      by_cases c : b = i
      · subst c; rw [pk_us, pk_us]; exact ⟨rfl, rfl⟩
      · rw [pk_un c, pk_un c]; exact h1 b (by omega)
  exact ⟨961, b29 960 0 kw ki (by omega) (fun j hj => by omega)⟩
