/-! the class's dawn -/
def RF (bk : Nat → Nat) (s : FS) (f1 z f3 f4 f5 f6 : Nat → Int32) : Prop :=
  R_rows bk s.1 f1 z ∧ (∀ w, w < 16 → f3 w = sv (s.2.1 w)) ∧ (∀ w, w < 16 → s.2.1 w ≠ 1000 → f4 w = nI (s.2.2.1 w)) ∧ (∀ w, w < 16 → f5 w = s.2.2.2.1 w) ∧ (∀ j, j < 960 → f6 j = nI (s.2.2.2.2.1 j))
theorem sv_ap {J : Nat → Nat} {f : Nat → Int32} {w v : Nat} {x : Int32} (h : ∀ u, u < 16 → f u = sv (J u)) (hx : x = sv v) : ∀ u, u < 16 → upd f w x u = sv (ap J w v u) := fun u hu => by
  by_cases c : u = w
  · subst c; rw [pk_us, ap_s, hx]
  · rw [pk_un c, ap_n c]; exact h u hu
theorem back_c {P G : Nat → Prop} {lo W : Nat} {bk : Nat → Nat} {e : EV} {s : FS} {f1 z f3 f4 laws cb cd : Nat → Int32} {K : (Nat → Int32) → (Nat → Int32) → Prop}
    (hI : IV P G lo s) (hPW : ∀ w, P w → w < W) (hW : W ≤ 16) (hb : ∀ w, P w → cb w = nI (bk w) ∧ bk w < 3) (hl : laws 0 = nI (eLw e 0)) (hl9 : eLw e 0 ≤ 999) (hcd : ∀ c, G c → c < 60 ∧ cd c = nI (eCf e c 0) ∧ eCf e c 0 ≤ 30) (hD : eD e < 100)
    (hR : R_rows bk s.1 f1 z) (hJ : ∀ w, w < 16 → f3 w = sv (s.2.1 w)) (hL : ∀ w, w < 16 → s.2.1 w ≠ 1000 → f4 w = nI (s.2.2.1 w))
    (hK : ∀ g1 g3, R_rows bk (backS e 16 s).1 g1 z → (∀ w, w < 16 → g3 w = sv ((backS e 16 s).2.1 w)) → K g1 g3) :
    wp_X2_bringBack f1 z f3 f4 laws cb (nI W) cd (nI (eD e)) K := by
  have loop : ∀ m i (g1 g3 : Nat → Int32), i + m = W → R_rows bk (backS e i s).1 g1 z → (∀ w, w < 16 → g3 w = sv ((backS e i s).2.1 w)) → wp_X2_bringBack_b2 K z f4 laws cb (nI W) cd (nI (eD e)) (m + 1) g1 g3 (nI i) := by
    intro m
    induction m with
    | zero =>
      intro i g1 g3 hi h1 h3
      rw [wp_X2_bringBack_b2]
      refine pk_le W i (fun _ => ?_) (fun q => by omega)
      have e16 : backS e 16 s = backS e i s := by
        have := backS_stop (e := e) hI hPW (16 - W)
        rw [show W + (16 - W) = 16 from by omega] at this
        rw [this, show i = W from by omega]
      exact hK g1 g3 (by rw [e16]; exact h1) (by rw [e16]; exact h3)
    | succ m ih =>
      intro i g1 g3 hi h1 h3
      have st := backS_IV (e := e) hI i
      have hn : backS e (i + 1) s = backStep e i (backS e i s) := rfl
      rw [wp_X2_bringBack_b2]
      refine pk_le W i (fun q => by omega) (fun _ => ⟨vp_in_nI (by omega) (by omega), ?_⟩)
      rw [nI_clamp (n := i) (by omega), h3 i (by omega)]
      have same : (¬ ((backS e i s).2.1 i ≠ 1000 ∧ (backS e i s).2.2.1 i < eD e)) → ∀ y : Int32, y = nI i + 1 → wp_X2_bringBack_b2 K z f4 laws cb (nI W) cd (nI (eD e)) (m + 1) g1 g3 y := by
        rintro q _ rfl
        rw [nI_1]
        refine ih (i + 1) g1 g3 (by omega) ?_ ?_ <;> rw [hn, back_f q] <;> assumption
      by_cases c : (backS e i s).2.1 i = 1000
      · rw [c]
        exact ⟨fun _ => same (fun q => q.1 c), fun q => absurd rfl q⟩
      · have job := st.1.2.2.1 i c
        have jc := hcd _ job.2.1
        rw [sv_ne c]
        refine ⟨fun q => absurd q (ne_m1 (by omega)), fun _ => ⟨vp_in_nI (by omega) (by omega), ?_⟩⟩
        rw [hL i (by omega) (st.2.2 i c).1]
        have e2 : (backS e i s).2.2.1 i = s.2.2.1 i := by rw [st.2.1]
        have l2 := job.2.2.2
        rw [e2] at l2
        refine pk_le (eD e) (s.2.2.1 i) (fun q => same (fun w => by have := w.2; omega)) (fun q => ⟨vp_in_nI (by omega) (by omega), vp_in_nI (by omega) (by omega), vp_in_nI (N := 5) (n := 0) (by omega) (by omega), ?_⟩)
        rw [nI_clamp (n := (backS e i s).2.1 i) (by omega), jc.2.1, show (0 : Int32).toNatClampNeg = 0 from rfl, hl]
        have hb' := hb i job.1
        have bt := back_t (e := e) (w := i) (s := backS e i s) ⟨c, by omega⟩
        refine pk_le (eCf e ((backS e i s).2.1 i) 0) (eLw e 0) (fun q2 => ?_) (fun q2 => ?_)
        · unfold wp_X2_bringBack_b61
          refine ⟨vp_in_nI (by omega) (by omega), fun _ => ?_, fun q => absurd rfl q⟩
          rintro _ rfl
          rw [nI_1, nI_clamp (by omega)]
          refine ih (i + 1) g1 _ (by omega) ?_ ?_
          · rw [hn, bt, if_neg (by omega)]; exact h1
          · rw [hn, bt]; exact sv_ap h3 rfl
        · unfold wp_X2_bringBack_b61
          refine ⟨vp_in_nI (by omega) (by omega), fun q => absurd q one0, fun _ => ?_⟩
          refine move_c h1 st.1.1 (fun x hx => by have := hPW x ((st.1.2.1 x).mp hx); omega) ((st.1.2.1 i).mpr job.1) hb'.1 hb'.2 (fun f' hf' => ?_)
          rintro _ rfl
          rw [nI_1, nI_clamp (by omega)]
          refine ih (i + 1) f' _ (by omega) ?_ ?_
          · rw [hn, bt, if_pos (by omega)]; exact hf'
          · rw [hn, bt]; exact sv_ap h3 rfl
  unfold wp_X2_bringBack
  exact ⟨W + 1, loop W 0 f1 f3 (by omega) hR hJ⟩
theorem sign_c {W : Nat} {bk : Nat → Nat} {e : EV} {Q : List Nat} {f1 z cb cs : Nat → Int32} {K : (Nat → Int32) → (Nat → Int32) → Prop}
    (hd : Q.Nodup) (hQ : ∀ w, w ∈ Q → w < W ∧ eSg e w < eD e) (hW : W ≤ 16) (hb : ∀ w, w < W → cb w = nI (bk w) ∧ bk w < 3) (hs : ∀ w, w < W → ∃ v, v < 100 ∧ cs w = nI v ∧ (v = eD e ↔ eSg e w = eD e)) (hs2 : ∀ w, W ≤ w → w < 16 → eSg e w ≠ eD e) (hD : eD e < 100)
    (hR : R_rows bk Q f1 z) (hK : ∀ g1 g2, R_rows bk (signQ e 16 Q) g1 g2 → K g1 g2) : wp_X2_signOn f1 z cb cs (nI W) (nI (eD e)) K := by
  have loop : ∀ m i (g1 g2 : Nat → Int32), i + m = W → R_rows bk (signQ e i Q) g1 g2 → wp_X2_signOn_b2 K cb cs (nI W) (nI (eD e)) (m + 1) g1 g2 (nI i) := by
    intro m
    induction m with
    | zero =>
      intro i g1 g2 hi h1
      rw [wp_X2_signOn_b2]
      refine pk_le W i (fun _ => ?_) (fun q => by omega)
      have e16 : signQ e 16 Q = signQ e i Q := by
        have := signQ_stop (e := e) (Q := Q) hs2 (16 - W) (by omega)
        rw [show W + (16 - W) = 16 from by omega] at this
        rw [this, show i = W from by omega]
      exact hK g1 g2 (by rw [e16]; exact h1)
    | succ m ih =>
      intro i g1 g2 hi h1
      have st := signQ_ok (e := e) hd i
      have hn : signQ e (i + 1) Q = (if eSg e i = eD e then mv (signQ e i Q) i else signQ e i Q) := rfl
      obtain ⟨v, hv, hv2, hv3⟩ := hs i (by omega)
      rw [wp_X2_signOn_b2]
      refine pk_le W i (fun q => by omega) (fun _ => ⟨vp_in_nI (by omega) (by omega), ?_⟩)
      rw [nI_clamp (n := i) (by omega), hv2]
      refine ⟨fun q => ?_, fun q => ⟨vp_in_nI (by omega) (by omega), ?_⟩⟩
      · have c : eSg e i ≠ eD e := fun w => q (by rw [hv3.mpr w])
        rintro _ rfl
        rw [nI_1]
        exact ih (i + 1) g1 g2 (by omega) (by rw [hn, if_neg c]; exact h1)
      · have c : eSg e i = eD e := hv3.mp ((nI_eq (by omega) (by omega)).mp q)
        have hb' := hb i (by omega)
        have hmem : ∀ x, x ∈ signQ e i Q → x < 16 := fun x hx => by
          rcases (st.2 x).mp hx with w | w
          · have := (hQ x w).1; omega
          · omega
        have hni : i ∉ signQ e i Q := fun hx => by
          rcases (st.2 i).mp hx with w | w
          · have := (hQ i w).2; omega
          · omega
        have sr := sign_rows h1 st.1 hmem (by omega : i < 16) hni hb'.2
        rintro _ rfl
        rw [hb'.1]
        have e16 : nI (bk i) * 16 + nI (QB bk (signQ e i Q) (bk i)).length = nI (16 * bk i + (QB bk (signQ e i Q) (bk i)).length) := by rw [show (16 : Int32) = nI 16 from rfl, pk_mul, nI_add, Nat.mul_comm]
        have z1 := (h1 (bk i) hb'.2).1
        have cl := nI_clamp (n := bk i) (by omega)
        refine ⟨vp_in_nI hb'.2 (by omega), ?_⟩
        rw [cl, z1, e16]
        refine ⟨vp_in_nI (by omega) (by omega), vp_in_nI hb'.2 (by omega), ?_⟩
        rintro _ rfl
        refine ⟨vp_in_nI hb'.2 (by omega), ?_⟩
        rintro _ rfl
        rw [nI_1, nI_1, nI_clamp (by omega)]
        exact ih (i + 1) _ _ (by omega) (by rw [hn, if_pos c]; exact sr.2)
  unfold wp_X2_signOn
  exact ⟨W + 1, loop W 0 f1 z (by omega) hR⟩
