/-! a line, the class -/
theorem rest_c {L N p key ln : Nat} {tb sy : Nat → Nat} {f g : Nat → Int32} {t : Nat × Nat × Nat × Nat} {a : Nat → Int32} {pl kd st v : Int32} {K : (Nat → Int32) → Int32 → Int32 → Int32 → Int32 → Int32 → Int32 → Int32 → Prop}
    (hR : R_text L N tb f g) (hT : TokC t pl kd st v) (ho : okT N t) (hk : key < 8) (hs : sy_ok sy) (ha : ∀ k, k < 8 → a k = sv (sy k))
    (hK : ∀ a' l' f' fp' pl' kd' st' v', LC (restS tb N p key t sy ln) a' l' f' fp' pl' kd' st' v' → K a' l' f' fp' pl' kd' st' v') :
    wp_X3_readLine_b48 K a (nI ln) (nI N) f (nI L) 0 (-1) pl kd st v (nI p) (nI key) := by
  unfold wp_X3_readLine_b48
  have hm : mstN key ≤ 999 := by unfold mstN; split <;> omega
  refine most_c hk (upto_c hT ho hm (fun e1 e2 ev => ⟨fun _ => ⟨vp_in_nI hk (by omega), ?_⟩, fun q => absurd q one0⟩) (fun e => ⟨fun q => absurd rfl q, fun _ => hK _ _ _ _ _ _ _ _ ?_⟩) (fun e1 e2 => ⟨fun q => absurd rfl q, fun _ => hK _ _ _ _ _ _ _ _ ?_⟩))
  · have hc : (nI key).toNatClampNeg = key := nI_clamp (by omega)
    rw [hc, ha key hk]
    by_cases c : sy key = 1000
    · refine br_t ((sv_m1 (hs key hk)).mpr c) ⟨vp_in_nI hk (by omega), ?_⟩
      rintro _ rfl
      obtain ⟨rfl, -, -, -⟩ := hT
      refine tok_c hR ho.1 (fun p1 k1 s1 v1 h1 => ?_)
      have o1 := tokS_ok (tb := tb) ho.1
      refine kind_c (k := 3) h1 o1.1.2.2.2.2.2 (by omega) (fun e => ⟨fun q => absurd q one0, fun _ => ?_⟩) (fun e => ⟨fun _ => ?_, fun q => absurd rfl q⟩)
      · obtain ⟨rfl, -, -, -⟩ := h1
        refine tok_c hR o1.1.1 (fun p2 k2 s2 v2 h2 => hK _ _ _ _ _ _ _ _ ?_)
        unfold restS
        rw [if_neg (by omega), if_neg (by omega), if_neg (by omega), if_neg (by omega)]
        refine ⟨rfl, fun q => absurd rfl q, fun _ => ⟨rfl, h2, fun k hk2 => ?_, ?_⟩⟩
        · show upd a key v k = sv (ap sy key t.2.2.2 k)
          by_cases w : k = key
          · subst w; rw [ap_s, pk_us, ev]; rw [sv_ne (by omega)]
          · rw [ap_n w, pk_un w]; exact ha k hk2
        · show nI ln + 1 = nI (ln + 1)
          exact nI_1 _
      · refine hK _ _ _ _ _ _ _ _ ?_
        unfold restS
        rw [if_neg (by omega), if_neg (by omega), if_neg (by omega), if_pos e]
        exact ⟨rfl, fun _ => rfl, fun q => absurd q (by simp)⟩
    · refine br_f (fun q => c ((sv_m1 (hs key hk)).mp q)) ?_
      unfold wp_X3_setFault
      refine hK _ _ _ _ _ _ _ _ ?_
      unfold restS
      rw [if_neg (by omega), if_neg (by omega), if_pos c]
      exact ⟨rfl, fun _ => rfl, fun q => absurd q (by simp)⟩
  · unfold restS
    rw [if_pos e]
    exact ⟨rfl, fun _ => rfl, fun q => absurd q (by simp)⟩
  · unfold restS
    rw [if_neg (by omega), if_pos e2]
    exact ⟨rfl, fun _ => rfl, fun q => absurd q (by simp)⟩
theorem line_c {L N ln : Nat} {tb sy : Nat → Nat} {f g : Nat → Int32} {t : Nat × Nat × Nat × Nat} {a : Nat → Int32} {pl kd st v : Int32} {K : (Nat → Int32) → Int32 → Int32 → Int32 → Int32 → Int32 → Int32 → Int32 → Prop}
    (hR : R_text L N tb f g) (hT : TokC t pl kd st v) (ho : okT N t) (hs : sy_ok sy) (ha : ∀ k, k < 8 → a k = sv (sy k))
    (hK : ∀ a' l' f' fp' pl' kd' st' v', LC (lineS tb N t sy ln) a' l' f' fp' pl' kd' st' v' → K a' l' f' fp' pl' kd' st' v') :
    wp_X3_readLine a (nI ln) 0 (-1) (nI N) pl kd st v f (nI L) K := by
  unfold wp_X3_readLine
  refine kind_c (k := 1) hT ho.2.2.2.2.2 (by omega) (fun e => ⟨fun _ => ?_, fun q => absurd q one0⟩) (fun e => ⟨fun q => absurd rfl q, fun _ => hK _ _ _ _ _ _ _ _ ?_⟩)
  · have hv := hT.2.2.2 (Or.inl e)
    have hv6 := ho.2.2.2.1 e
    have hst := hT.2.2.1
    obtain ⟨rfl, -, -, -⟩ := hT
    refine tok_c hR ho.1 (fun p1 k1 s1 v1 h1 => ?_)
    have o1 := tokS_ok (tb := tb) ho.1
    rw [hv, hst]
    refine ⟨fun q => ?_, fun q => ?_⟩
    · have c : t.2.2.2 ≠ 5 := fun w => q (by rw [w]; rfl)
      refine rest_c hR h1 o1.1 (by omega) hs ha (fun a' l' f' fp' pl' kd' st' v' h => hK _ _ _ _ _ _ _ _ ?_)
      unfold lineS
      rw [if_neg (by omega), if_neg c]
      exact h
    · have c : t.2.2.2 = 5 := (nI_eq (by omega) (by omega)).mp (q.trans (show (5 : Int32) = nI 5 from rfl))
      refine upto_c (m := 2) h1 o1.1 (by omega) (fun e1 e2 ev => ⟨fun _ => ?_, fun q => absurd q one0⟩) (fun e1 => ⟨fun q => absurd rfl q, fun _ => hK _ _ _ _ _ _ _ _ ?_⟩) (fun e1 e2 => ⟨fun q => absurd rfl q, fun _ => hK _ _ _ _ _ _ _ _ ?_⟩)
      · rintro _ rfl
        obtain ⟨rfl, -, -, -⟩ := h1
        refine tok_c hR o1.1.1 (fun p2 k2 s2 v2 h2 => ?_)
        have o2 := tokS_ok (tb := tb) o1.1.1
        rw [ev, show (5 : Int32) = nI 5 from rfl, nI_add]
        refine rest_c hR h2 o2.1 (by omega) hs ha (fun a' l' f' fp' pl' kd' st' v' h => hK _ _ _ _ _ _ _ _ ?_)
        unfold lineS
        rw [if_neg (by omega), if_pos c, if_neg (by omega), if_neg (by omega)]
        exact h
      · unfold lineS
        rw [if_neg (by omega), if_pos c, if_pos e1]
        exact ⟨rfl, fun _ => rfl, fun q => absurd q (by simp)⟩
      · unfold lineS
        rw [if_neg (by omega), if_pos c, if_neg (by omega), if_pos e2]
        exact ⟨rfl, fun _ => rfl, fun q => absurd q (by simp)⟩
  · unfold lineS
    rw [if_pos e]
    exact ⟨rfl, fun _ => rfl, fun q => absurd q (by simp)⟩
