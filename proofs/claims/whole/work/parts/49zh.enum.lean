/-! the reference tells the pairs that differ -/
theorem enum_r {C W kb day : Nat} {cY N nb : Nat → Nat} {cy kw row many on jl jd jc rf wy mi sn : Nat → Int32} {th sm ck lf dn : Int32}
    {K : Int32 → Int32 → (Nat → Int32) → (Nat → Int32) → (Nat → Int32) → (Nat → Int32) → (Nat → Int32) → (Nat → Int32) → (Nat → Int32) → (Nat → Int32) → (Nat → Int32) → Int32 → Int32 → Int32 → Int32 → (Nat → Int32) → (Nat → Int32) → (Nat → Int32) → (Nat → Int32) → Int32 → Prop}
    (hC : C ≤ 60) (hW : W ≤ 16) (hday : day < 100) (ry : rw_ C cy cY) (hY : ∀ k, k < C → cY k < 100) (hkb : isN C cY day kb) (hwy : ∀ j, j < 960 → wy j = nI (nb j % 8)) (hkw : ∀ j, j < 960 → kw j = nI (N j % 8)) (hno : ∀ j, W ≤ j % 16 → ¬ dif N nb j = true) (dc dw ds : Nat → Int32)
    (hK : ∀ dc' dw' ds', RD nb (DL N nb (16 * kb)) dc' dw' ds' → K (nI (DL N nb (16 * kb)).length) th row many on jl jd jc rf wy mi sm ck lf dn sn dc' dw' ds' (nI (DL N nb (16 * kb)).length)) :
    ∃ n44, wp_X8_anew_b44 K (nI W) cy (nI C) kw (nI day) n44 th row many on jl jd jc rf wy mi sm ck lf dn sn dc dw ds 0 0 := by
  have kC := hkb.1
  have inner : ∀ (k44 : Int32 → (Nat → Int32) → (Nat → Int32) → (Nat → Int32) → (Nat → Int32) → (Nat → Int32) → (Nat → Int32) → (Nat → Int32) → (Nat → Int32) → (Nat → Int32) → Int32 → Int32 → Int32 → Int32 → (Nat → Int32) → (Nat → Int32) → (Nat → Int32) → (Nat → Int32) → Int32 → Int32 → Prop) (c : Nat), c < kb →
      (∀ dc dw ds, RD nb (DL N nb (16 * (c + 1))) dc dw ds → k44 th row many on jl jd jc rf wy mi sm ck lf dn sn dc dw ds (nI (DL N nb (16 * (c + 1))).length) (nI (c + 1))) →
      ∀ m w (dc dw ds : Nat → Int32), w + m = W → RD nb (DL N nb (16 * c + w)) dc dw ds → wp_X8_anew_b55 K k44 (nI W) cy kw (nI day) (m + 1) th row many on jl jd jc rf wy mi sm ck lf dn sn dc dw ds (nI (DL N nb (16 * c + w)).length) (nI c) (nI w) := by
    intro k44 c hc hk44 m
    induction m with
    | zero =>
      intro w dc dw ds hw hD
      rw [wp_X8_anew_b55]
      refine pk_le W w (fun _ => ?_) (fun q => by omega)
      rintro _ rfl
      have : DL N nb (16 * (c + 1)) = DL N nb (16 * c + w) := by
        have := DL_skip (N := N) (nb := nb) (a := 16 * c + w) (16 - w) (fun j h1 h2 => hno j (by omega))
        rw [show 16 * c + w + (16 - w) = 16 * (c + 1) from by omega] at this
        exact this
      have k := hk44 dc dw ds (by rw [this]; exact hD)
      rw [this] at k
      rw [nI_1]; exact k
    | succ m ih =>
      intro w dc dw ds hw hD
      have yc := hkb.2.1 c hc
      have ix : (16 : Int32) * nI c + nI w = nI (16 * c + w) := by rw [show (16 : Int32) = nI 16 from rfl, pk_mul, nI_add]
      have hl := DL_len (N := N) (nb := nb) (m := 16 * c + w)
      have hv := vp_in_nI (N := 960) (show 16 * c + w < 960 by omega) (by omega)
      have hv2 := vp_in_nI (N := 960) (show (DL N nb (16 * c + w)).length < 960 by omega) (by omega)
      have hcl := nI_clamp (n := 16 * c + w) (by omega)
      have hcl2 := nI_clamp (n := (DL N nb (16 * c + w)).length) (by omega)
      rw [wp_X8_anew_b55]
      refine pk_le W w (fun q => by omega) (fun _ => ⟨vp_in_nI (by omega) (by omega), ?_⟩)
      rw [nI_clamp (n := c) (by omega), ry c (by omega), ix]
      refine pk_le day (cY c) (fun q => by omega) (fun _ => ⟨hv, ?_⟩)
      rw [hcl, hwy _ (by omega)]
      have body : ∀ (nw kp : Int32), (nw = 0 ∨ nw = 1) → (kp = 0 ∨ kp = 1) → (nw = 1 ↔ nb (16 * c + w) % 8 = 5) → (kp = 1 ↔ N (16 * c + w) % 8 = 5) → wp_X8_anew_b120 K k44 (fun a1 a2 a3 a4 a5 a6 a7 a8 a9 a10 a11 a12 a13 a14 a15 a16 a17 a18 a19 a20 a21 => wp_X8_anew_b55 K k44 (nI W) cy kw (nI day) (m + 1) a1 a2 a3 a4 a5 a6 a7 a8 a9 a10 a11 a12 a13 a14 a15 a16 a17 a18 a19 a20 a21) th row many on jl jd jc rf wy mi sm ck lf dn sn dc dw ds (nI (DL N nb (16 * c + w)).length) (nI c) (nI w) nw kp nw := by
        intro nw kp hnw hkp h1 h2
        unfold wp_X8_anew_b120
        refine ⟨fun q => ⟨hv2, hv2, ?_⟩, fun q => ?_⟩
        · have hd : dif N nb (16 * c + w) = true := by
            unfold dif
            rw [decide_eq_true_eq, ← h1, ← h2]
            intro z
            rcases hnw with t | t <;> rcases hkp with u | u
            · exact q (by rw [t, u])
            · exact one0 (by rw [← z.mp u, t])
            · exact one0 (by rw [← z.mpr t, u])
            · exact q (by rw [t, u])
          have hs := DL_succ_t hd
          have ra := RD_app (q := 16 * c + w) hD
          rw [show (16 * c + w) / 16 = c from by omega, show (16 * c + w) % 16 = w from by omega] at ra
          have nx : ∀ x : Int32, x = nI (if nb (16 * c + w) % 8 = 5 then 1 else 0) → wp_X8_anew_b165 K k44 (fun a1 a2 a3 a4 a5 a6 a7 a8 a9 a10 a11 a12 a13 a14 a15 a16 a17 a18 a19 a20 a21 => wp_X8_anew_b55 K k44 (nI W) cy kw (nI day) (m + 1) a1 a2 a3 a4 a5 a6 a7 a8 a9 a10 a11 a12 a13 a14 a15 a16 a17 a18 a19 a20 a21) th row many on jl jd jc rf wy mi sm ck lf dn sn (upd dc (DL N nb (16 * c + w)).length (nI c)) (upd dw (DL N nb (16 * c + w)).length (nI w)) ds (nI (DL N nb (16 * c + w)).length) (nI c) (nI w) x (nI (DL N nb (16 * c + w)).length) := by
            intro x hx
            unfold wp_X8_anew_b165
            refine ⟨hv2, ?_⟩
            rintro _ rfl _ rfl
            rw [hcl2, hx]
            have := ih (w + 1) _ _ _ (by omega) (by rw [show 16 * c + (w + 1) = 16 * c + w + 1 from rfl, hs]; exact ra)
            rw [show 16 * c + (w + 1) = 16 * c + w + 1 from rfl, hs, List.length_append, List.length_singleton] at this
            rw [nI_1, nI_1]; exact this
          rw [hcl2]
          refine ⟨fun z => nx 0 ?_, fun z => nx 1 ?_⟩
          · rw [if_neg (fun t => one0 (by rw [← h1.mpr t, z]))]; rfl
          · have : nw = 1 := hnw.resolve_left z
            rw [if_pos (h1.mp this)]; rfl
        · rintro _ rfl
          have hd : ¬ dif N nb (16 * c + w) = true := by
            unfold dif
            rw [decide_eq_true_eq, ← h1, ← h2, q]
            exact fun z => z Iff.rfl
          have := ih (w + 1) dc dw ds (by omega) (by rw [show 16 * c + (w + 1) = 16 * c + w + 1 from rfl, DL_succ_f hd]; exact hD)
          rw [show 16 * c + (w + 1) = 16 * c + w + 1 from rfl, DL_succ_f hd] at this
          rw [nI_1]; exact this
      have b95 : ∀ (nw : Int32), (nw = 0 ∨ nw = 1) → (nw = 1 ↔ nb (16 * c + w) % 8 = 5) → wp_X8_anew_b95 K k44 (fun a1 a2 a3 a4 a5 a6 a7 a8 a9 a10 a11 a12 a13 a14 a15 a16 a17 a18 a19 a20 a21 => wp_X8_anew_b55 K k44 (nI W) cy kw (nI day) (m + 1) a1 a2 a3 a4 a5 a6 a7 a8 a9 a10 a11 a12 a13 a14 a15 a16 a17 a18 a19 a20 a21) kw th row many on jl jd jc rf wy mi sm ck lf dn sn dc dw ds (nI (DL N nb (16 * c + w)).length) (nI c) (nI w) nw := by
        intro nw hnw h1
        unfold wp_X8_anew_b95
        rw [ix, hcl, hkw _ (by omega)]
        refine ⟨hv, fun q => body nw 0 hnw (Or.inl rfl) h1 ⟨fun z => absurd z.symm one0, fun z => absurd (by rw [z]; rfl) q⟩, fun q => body nw 1 hnw (Or.inr rfl) h1 ⟨fun _ => (nI_eq (b := 5) (by omega) (by omega)).mp q, fun _ => rfl⟩⟩
      refine ⟨fun q => b95 0 (Or.inl rfl) ⟨fun z => absurd z.symm one0, fun z => absurd (by rw [z]; rfl) q⟩, fun q => b95 1 (Or.inr rfl) ⟨fun _ => (nI_eq (b := 5) (by omega) (by omega)).mp q, fun _ => rfl⟩⟩
  have outer : ∀ m c (dc dw ds : Nat → Int32), c + m = C → RD nb (DL N nb (16 * min c kb)) dc dw ds → wp_X8_anew_b44 K (nI W) cy (nI C) kw (nI day) (m + 1) th row many on jl jd jc rf wy mi sm ck lf dn sn dc dw ds (nI (DL N nb (16 * min c kb)).length) (nI c) := by
    intro m
    induction m with
    | zero =>
      intro c dc dw ds hc hD
      rw [wp_X8_anew_b44]
      have : min c kb = kb := by omega
      rw [this] at hD ⊢
      exact pk_le C c (fun _ => hK _ _ _ hD) (fun q => by omega)
    | succ m ih =>
      intro c dc dw ds hc hD
      rw [wp_X8_anew_b44]
      refine pk_le C c (fun q => by omega) (fun _ => ?_)
      by_cases z : c < kb
      · have e1 : min c kb = c := by omega
        have e2 : min (c + 1) kb = c + 1 := by omega
        rw [e1] at hD ⊢
        refine ⟨W + 1, ?_⟩
        have := inner (fun mm_thrown mm_row mm_rowMany mm_isOn mm_jobLast mm_jobDays mm_jobCall mm_refusals mm_whys mm_minutes mm_sentMany mm_clock mm_left mm_done mm_snapshot mm_differCall mm_differWorker mm_differSent mm_differMany x3 => wp_X8_anew_b44 K (nI W) cy (nI C) kw (nI day) (m + 1) mm_thrown mm_row mm_rowMany mm_isOn mm_jobLast mm_jobDays mm_jobCall mm_refusals mm_whys mm_minutes mm_sentMany mm_clock mm_left mm_done mm_snapshot mm_differCall mm_differWorker mm_differSent mm_differMany x3) c z (fun dc dw ds hD' => by
          have := ih (c + 1) dc dw ds (by omega) (by rw [e2]; exact hD')
          rw [e2] at this; exact this) W 0 dc dw ds (by omega) hD
        exact this
      · have e1 : min c kb = kb := by omega
        have e2 : min (c + 1) kb = kb := by omega
        have nx := ih (c + 1) dc dw ds (by omega) (by rw [e2, ← e1]; exact hD)
        rw [e2] at nx
        rw [e1]
        refine ⟨W + 1, ?_⟩
        have yc := hkb.2.2 c (by omega) (by omega)
        have y100 := hY c (by omega)
        rw [wp_X8_anew_b55]
        refine ⟨fun _ => ?_, fun q => ⟨vp_in_nI (by omega) (by omega), ?_⟩⟩
        · rintro _ rfl
          rw [nI_1]; exact nx
        · rw [nI_clamp (n := c) (by omega), ry c (by omega)]
          refine pk_le day (cY c) (fun _ => ?_) (fun q => by omega)
          rintro _ rfl
          rw [nI_1]; exact nx
  refine ⟨C + 1, ?_⟩
  have := outer C 0 dc dw ds (by omega) (by rw [Nat.zero_min]; exact ⟨trivial, trivial, trivial⟩)
  rw [Nat.zero_min] at this
  exact this
