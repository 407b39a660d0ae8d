/-! a line, the reference -/
theorem nI_eqI {a b : Nat} (ha : a < 2147483648) (hb : b < 2147483648) : nI a = nI b ↔ a = b := ⟨fun q => (nI_eq ha hb).mp q, fun q => by rw [q]⟩
theorem rkd_lt {k : Nat} (h : k ≤ 4) : rkd k < 5 := by
  rcases (by omega : k = 0 ∨ k = 1 ∨ k = 2 ∨ k = 3 ∨ k = 4) with rfl | rfl | rfl | rfl | rfl <;> decide
theorem rkd_eq {k j : Nat} (h : k ≤ 4) (hj : j ≤ 4) : rkd k = rkd j ↔ k = j := by
  rcases (by omega : k = 0 ∨ k = 1 ∨ k = 2 ∨ k = 3 ∨ k = 4) with rfl | rfl | rfl | rfl | rfl <;> rcases (by omega : j = 0 ∨ j = 1 ∨ j = 2 ∨ j = 3 ∨ j = 4) with rfl | rfl | rfl | rfl | rfl <;> decide
theorem sort_r {t : Nat × Nat × Nat × Nat} {j : Nat} {A B : Prop} {at_ pl so v : Int32} (hT : TokR t at_ pl so v) (hk : t.1 ≤ 4) (hj : j ≤ 4) (h1 : t.1 = j → A) (h0 : t.1 ≠ j → B) : (so = nI (rkd j) → A) ∧ (¬ so = nI (rkd j) → B) := by
  obtain ⟨-, -, rfl, -⟩ := hT
  have a := rkd_lt hk
  have b := rkd_lt hj
  exact pk_eq (rkd t.1) (rkd j) (fun e => h1 ((rkd_eq hk hj).mp e)) (fun e => h0 (fun w => e (by rw [w])))
/-- number, with no fault so far -/
theorem number_r {L N m : Nat} {tb : Nat → Nat} {f g : Nat → Int32} {t : Nat × Nat × Nat × Nat} {at_ pl so v : Int32} {K : Int32 → Int32 → Int32 → Int32 → Int32 → Int32 → Int32 → Prop}
    (hR : R_text L N tb f g) (hT : TokR t at_ pl so v) (ho : okT N t) (hm : m ≤ 999)
    (h1 : t.1 = 2 → t.2.2.2 ≤ m → ∀ a b c d, TokR (tokS tb N t.2.2.1) a b c d → K (nI t.2.2.2) a b c d 0 (-1)) (h0 : t.1 ≠ 2 → K 0 at_ pl so v 1 (nI t.2.1)) (h2 : t.1 = 2 → m < t.2.2.2 → K 0 at_ pl so v 2 (nI t.2.1)) :
    wp_X8_number g (nI N) at_ pl so v 0 (-1) (nI m) K := by
  unfold wp_X8_number
  refine br_t rfl (sort_r (j := 2) hT ho.2.2.2.2.2 (by omega) (fun e => ?_) (fun e => ?_))
  · have hv := hT.2.2.2 (Or.inr e)
    have hb := ho.2.2.2.2.1 e
    have hpl := hT.2.1
    refine pk_le (x := v) (y := nI m) t.2.2.2 m (fun q => ?_) (fun q => ?_) (hx := hv)
    · unfold wp_X8_number_b46
      refine br_t rfl ?_
      obtain ⟨rfl, -, -, -⟩ := hT
      refine tok_r hR ho.1 (fun a b c d h => ?_)
      rw [hv]
      exact h1 e q a b c d h
    · unfold wp_X8_wrong
      refine br_t rfl ?_
      unfold wp_X8_number_b46
      refine br_f (by decide) ?_
      rw [hpl]; rw [hpl] at h2; exact h2 e q
  · unfold wp_X8_wrong
    refine br_t rfl ?_
    unfold wp_X8_number_b46
    have hpl := hT.2.1
    refine br_f (by decide) ?_
    rw [hpl]; rw [hpl] at h0; exact h0 e
theorem number_r' {g : Nat → Int32} {sz at_ pl so v fa fp m : Int32} {K : Int32 → Int32 → Int32 → Int32 → Int32 → Int32 → Int32 → Prop} (hf : ¬ fa = 0) (h : K 0 at_ pl so v fa fp) : wp_X8_number g sz at_ pl so v fa fp m K := by
  unfold wp_X8_number
  exact br_f hf h
theorem b59_r' {g vs : Nat → Int32} {sz nl at_ pl so v fa fp p key m : Int32} {K : (Nat → Int32) → Int32 → Int32 → Int32 → Int32 → Int32 → Int32 → Int32 → Prop} (hf : ¬ fa = 0) (h : K vs at_ pl so v fa fp nl) : wp_X8_line_b59 K g vs sz nl at_ pl so v fa fp p key m := by
  unfold wp_X8_line_b59
  exact number_r' hf (br_f hf h)
theorem b41_r' {g vs : Nat → Int32} {sz nl at_ pl so v fa fp p key : Int32} {K : (Nat → Int32) → Int32 → Int32 → Int32 → Int32 → Int32 → Int32 → Int32 → Prop} (hf : ¬ fa = 0) (h : K vs at_ pl so v fa fp nl) : wp_X8_line_b41 K g vs sz nl at_ pl so v fa fp p key := by
  unfold wp_X8_line_b41 wp_X8_line_b52
  exact ⟨fun _ => b59_r' hf h, fun _ => ⟨fun _ => b59_r' hf h, fun _ => b59_r' hf h⟩⟩
theorem b59_r {L N p key ln : Nat} {tb sy : Nat → Nat} {f g : Nat → Int32} {t : Nat × Nat × Nat × Nat} {a0 a : Nat → Int32} {at_ pl so v : Int32} {K : (Nat → Int32) → Int32 → Int32 → Int32 → Int32 → Int32 → Int32 → Int32 → Prop}
    (hR : R_text L N tb f g) (hT : TokR t at_ pl so v) (ho : okT N t) (hk : key < 8) (hs : sy_ok sy) (ha0 : ∀ k, k < 80 → a k = a0 k) (ha : ∀ k, k < 8 → a (80 + k) = sv (sy k))
    (hK : ∀ a' at' pl' so' v' f' fp' l', LR (restS tb N p key t sy ln) a0 a' at' pl' so' v' f' fp' l' → K a' at' pl' so' v' f' fp' l') :
    wp_X8_line_b59 K g a (nI N) (nI ln) at_ pl so v 0 (-1) (nI p) (nI key) (nI (mstN key)) := by
  unfold wp_X8_line_b59
  have hm : mstN key ≤ 999 := by unfold mstN; split <;> omega
  have hc : (80 : Int32) + nI key = nI (80 + key) := by rw [show (80 : Int32) = nI 80 from rfl, nI_add]
  refine number_r hR hT ho hm (fun e1 e2 at1 pl1 so1 v1 h1 => br_t rfl ?_) (fun e => br_f (by decide) (hK _ _ _ _ _ _ _ _ ?_)) (fun e1 e2 => br_f (by decide) (hK _ _ _ _ _ _ _ _ ?_))
  · rw [hc]
    refine ⟨vp_in_nI (by omega) (by omega), ?_⟩
    rw [nI_clamp (by omega), ha key hk]
    have o1 := tokS_ok (tb := tb) ho.1
    have hupd0 : ∀ k, k < 80 → upd a (80 + key) (nI t.2.2.2) k = a0 k := fun k hk2 => by rw [pk_un (by omega)]; exact ha0 k hk2
    by_cases c : sy key = 1000
    · refine br_t ((sv_m1 (hs key hk)).mpr c) ⟨vp_in_nI (by omega) (by omega), ?_⟩
      rintro _ rfl
      refine sort_r (j := 3) h1 o1.1.2.2.2.2.2 (by omega) (fun e => ?_) (fun e => ?_)
      · obtain ⟨rfl, -, -, -⟩ := h1
        refine tok_r hR o1.1.1 (fun p2 k2 s2 v2 h2 => hK _ _ _ _ _ _ _ _ ?_)
        unfold restS
        rw [if_neg (by omega), if_neg (by omega), if_neg (by omega), if_neg (by omega)]
        refine ⟨rfl, fun q => absurd rfl q, hupd0, fun _ => ⟨rfl, h2, fun k hk2 => ?_, ?_⟩⟩
        · show upd a (80 + key) (nI t.2.2.2) (80 + k) = sv (ap sy key t.2.2.2 k)
          by_cases w : k = key
          · subst w; rw [ap_s, pk_us]; rw [sv_ne (by omega)]
          · rw [ap_n w, pk_un (by omega)]; exact ha k hk2
        · show nI ln + 1 = nI (ln + 1)
          exact nI_1 _
      · have hpl := h1.2.1
        unfold wp_X8_wrong
        refine br_t rfl (hK _ _ _ _ _ _ _ _ ?_)
        unfold restS
        rw [if_neg (by omega), if_neg (by omega), if_neg (by omega), if_pos e]
        exact ⟨rfl, fun _ => hpl, hupd0, fun q => absurd q (by simp)⟩
    · refine br_f (fun q => c ((sv_m1 (hs key hk)).mp q)) ?_
      unfold wp_X8_wrong
      refine br_t rfl (hK _ _ _ _ _ _ _ _ ?_)
      unfold restS
      rw [if_neg (by omega), if_neg (by omega), if_pos c]
      exact ⟨rfl, fun _ => rfl, ha0, fun q => absurd q (by simp)⟩
  · unfold restS
    rw [if_pos e]
    exact ⟨rfl, fun _ => rfl, ha0, fun q => absurd q (by simp)⟩
  · unfold restS
    rw [if_neg (by omega), if_pos e2]
    exact ⟨rfl, fun _ => rfl, ha0, fun q => absurd q (by simp)⟩
theorem b41_r {L N p key ln : Nat} {tb sy : Nat → Nat} {f g : Nat → Int32} {t : Nat × Nat × Nat × Nat} {a0 a : Nat → Int32} {at_ pl so v : Int32} {K : (Nat → Int32) → Int32 → Int32 → Int32 → Int32 → Int32 → Int32 → Int32 → Prop}
    (hR : R_text L N tb f g) (hT : TokR t at_ pl so v) (ho : okT N t) (hk : key < 8) (hs : sy_ok sy) (ha0 : ∀ k, k < 80 → a k = a0 k) (ha : ∀ k, k < 8 → a (80 + k) = sv (sy k))
    (hK : ∀ a' at' pl' so' v' f' fp' l', LR (restS tb N p key t sy ln) a0 a' at' pl' so' v' f' fp' l' → K a' at' pl' so' v' f' fp' l') :
    wp_X8_line_b41 K g a (nI N) (nI ln) at_ pl so v 0 (-1) (nI p) (nI key) := by
  have main := b59_r (p := p) hR hT ho hk hs ha0 ha hK
  unfold wp_X8_line_b41 wp_X8_line_b52
  refine pk_eq key 3 (fun e => ?_) (fun e => ⟨fun q => ?_, fun q => ?_⟩)
  · subst e; exact main
  · have : key ≠ 4 := fun w => q (by rw [w]; rfl)
    unfold mstN at main; rw [if_neg (by omega)] at main; exact main
  · have c : key = 4 := (nI_eq (by omega) (by omega)).mp (q.trans (show (4 : Int32) = nI 4 from rfl))
    subst c; exact main
theorem line_r {L N ln : Nat} {tb sy : Nat → Nat} {f g : Nat → Int32} {t : Nat × Nat × Nat × Nat} {a0 a : Nat → Int32} {at_ pl so v : Int32} {K : (Nat → Int32) → Int32 → Int32 → Int32 → Int32 → Int32 → Int32 → Int32 → Prop}
    (hR : R_text L N tb f g) (hT : TokR t at_ pl so v) (ho : okT N t) (hs : sy_ok sy) (ha0 : ∀ k, k < 80 → a k = a0 k) (ha : ∀ k, k < 8 → a (80 + k) = sv (sy k))
    (hK : ∀ a' at' pl' so' v' f' fp' l', LR (lineS tb N t sy ln) a0 a' at' pl' so' v' f' fp' l' → K a' at' pl' so' v' f' fp' l') :
    wp_X8_line g a (nI N) at_ pl so v 0 (-1) (nI ln) K := by
  unfold wp_X8_line
  refine sort_r (j := 1) hT ho.2.2.2.2.2 (by omega) (fun e => ?_) (fun e => ?_)
  · have hv := hT.2.2.2 (Or.inl e)
    have hv6 := ho.2.2.2.1 e
    have hpl := hT.2.1
    obtain ⟨rfl, -, -, -⟩ := hT
    refine tok_r hR ho.1 (fun p1 k1 s1 v1 h1 => ?_)
    have o1 := tokS_ok (tb := tb) ho.1
    rw [hv, hpl]
    refine ⟨fun q => ?_, fun q => ?_⟩
    · have c : t.2.2.2 ≠ 5 := fun w => q (by rw [w]; rfl)
      refine b41_r hR h1 o1.1 (by omega) hs ha0 ha (fun a' at' pl' so' v' f' fp' l' h => hK _ _ _ _ _ _ _ _ ?_)
      unfold lineS
      rw [if_neg (by omega), if_neg c]
      exact h
    · have c : t.2.2.2 = 5 := (nI_eq (by omega) (by omega)).mp (q.trans (show (5 : Int32) = nI 5 from rfl))
      refine number_r (m := 2) hR h1 o1.1 (by omega) (fun e1 e2 at2 pl2 so2 v2 h2 => ?_) (fun e1 => ?_) (fun e1 e2 => ?_)
      · rintro _ rfl
        have o2 := tokS_ok (tb := tb) o1.1.1
        rw [c, nI_add]
        refine b41_r hR h2 o2.1 (by omega) hs ha0 ha (fun a' l' f' fp' pl' kd' st' v' h => hK _ _ _ _ _ _ _ _ ?_)
        unfold lineS
        rw [if_neg (by omega), if_pos c, if_neg (by omega), if_neg (by omega)]
        exact h
      · rintro _ rfl
        refine b41_r' (by decide) (hK _ _ _ _ _ _ _ _ ?_)
        unfold lineS
        rw [if_neg (by omega), if_pos c, if_pos e1]
        exact ⟨rfl, fun _ => rfl, ha0, fun q => absurd q (by simp)⟩
      · rintro _ rfl
        refine b41_r' (by decide) (hK _ _ _ _ _ _ _ _ ?_)
        unfold lineS
        rw [if_neg (by omega), if_pos c, if_neg (by omega), if_pos e2]
        exact ⟨rfl, fun _ => rfl, ha0, fun q => absurd q (by simp)⟩
  · have hpl := hT.2.1
    unfold wp_X8_wrong
    refine br_t rfl (hK _ _ _ _ _ _ _ _ ?_)
    unfold lineS
    rw [if_pos e]
    exact ⟨rfl, fun _ => hpl, ha0, fun q => absurd q (by simp)⟩
