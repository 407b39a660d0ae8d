/-! the reference's dawn -/
def mnI (v : Nat) : Int32 := if v % 8 = 0 ∨ v % 8 = 6 then -1 else nI (v / 8)
def onI (v : Nat) : Int32 := if v = 1000 then 0 else 1
theorem onI_t : onI 1000 = 0 := rfl
theorem onI_f {v : Nat} (h : v ≠ 1000) : onI v = 1 := if_neg h
def RM (bk dy : Nat → Nat) (s : FS) (row many on jl jd jc rf wy mi : Nat → Int32) : Prop :=
  R_rows bk s.1 row many ∧ (∀ w, w < 16 → on w = onI (s.2.1 w)) ∧ (∀ w, w < 16 → s.2.1 w ≠ 1000 → jl w = nI (s.2.2.1 w) ∧ jd w = nI (dy (s.2.1 w))) ∧ (∀ w, w < 16 → jc w = sv (s.2.1 w)) ∧ (∀ w, w < 16 → rf w = s.2.2.2.1 w) ∧ (∀ j, j < 960 → wy j = nI (s.2.2.2.2.1 j % 8) ∧ mi j = mnI (s.2.2.2.2.1 j))
theorem on_ap {J : Nat → Nat} {f : Nat → Int32} {w v : Nat} {x : Int32} (h : ∀ u, u < 16 → f u = onI (J u)) (hx : x = onI v) : ∀ u, u < 16 → upd f w x u = onI (ap J w v u) := fun u hu => by
  by_cases c : u = w
  · subst c; rw [pk_us, ap_s, hx]
  · rw [pk_un c, ap_n c]; exact h u hu
theorem nar0 : vp_nar .boolean 0 = 0 := by decide
theorem nar1 : vp_nar .boolean 1 = 1 := by decide
theorem begin_r {P G : Nat → Prop} {W : Nat} {bk dy : Nat → Nat} {e : EV} {s : FS} {row many on jl jd jc to fd ud vs cb cs : Nat → Int32} {tx kn : Int32} {K : (Nat → Int32) → (Nat → Int32) → (Nat → Int32) → (Nat → Int32) → Prop}
    (hI : IV P G (eD e) s) (hPW : ∀ w, P w → w < W ∧ eSg e w < eD e) (hW : W ≤ 16) (hb : ∀ w, w < W → cb w = nI (bk w) ∧ bk w < 3) (hs : ∀ w, w < W → ∃ v, v < 100 ∧ cs w = nI v ∧ (v = eD e ↔ eSg e w = eD e)) (hs2 : ∀ w, W ≤ w → w < 16 → eSg e w ≠ eD e)
    (hlaw : ∀ K : Int32 → Prop, K (nI (eLw e 0)) → wp_X8_lawOf to fd ud vs tx 0 (nI (eD e)) kn K) (hl9 : eLw e 0 ≤ 999) (hcd : ∀ c, G c → c < 60 ∧ dy c = eCf e c 0 ∧ eCf e c 0 ≤ 30) (hD : eD e < 100)
    (hR : R_rows bk s.1 row many) (hO : ∀ w, w < 16 → on w = onI (s.2.1 w)) (hL : ∀ w, w < 16 → s.2.1 w ≠ 1000 → jl w = nI (s.2.2.1 w) ∧ jd w = nI (dy (s.2.1 w))) (hJ : ∀ w, w < 16 → jc w = sv (s.2.1 w))
    (hK : ∀ g1 g2 g3 g4, R_rows bk (dawnS e s).1 g1 g2 → (∀ w, w < 16 → g3 w = onI ((dawnS e s).2.1 w)) → (∀ w, w < 16 → g4 w = sv ((dawnS e s).2.1 w)) → K g1 g2 g3 g4) :
    wp_X8_begins to fd ud vs tx cb cs (nI W) row many on jl jd jc (nI (eD e)) kn K := by
  have back16 := backS_IV (e := e) hI 16
  have e16 : backS e 16 s = backS e W s := by
    have := backS_stop (e := e) hI (fun w hw => (hPW w hw).1) (16 - W)
    rw [show W + (16 - W) = 16 from by omega] at this
    exact this
  unfold dawnS at hK
  generalize hB : backS e 16 s = B at hK back16 e16
  have loop2 : ∀ m i (g1 g2 g3 g4 : Nat → Int32), i + m = W → R_rows bk (signQ e i B.1) g1 g2 → (∀ w, w < 16 → g3 w = onI (B.2.1 w)) → (∀ w, w < 16 → g4 w = sv (B.2.1 w)) → wp_X8_begins_b77 K cb cs (nI W) (nI (eD e)) (m + 1) g1 g2 g3 g4 (nI i) := by
    intro m
    induction m with
    | zero =>
      intro i g1 g2 g3 g4 hi h1 h3 h4
      rw [wp_X8_begins_b77]
      refine pk_le W i (fun _ => ?_) (fun q => by omega)
      have e16 : signQ e 16 B.1 = signQ e i B.1 := by
        have := signQ_stop (e := e) (Q := B.1) hs2 (16 - W) (by omega)
        rw [show W + (16 - W) = 16 from by omega] at this
        rw [this, show i = W from by omega]
      exact hK g1 g2 g3 g4 (by rw [e16]; exact h1) h3 h4
    | succ m ih =>
      intro i g1 g2 g3 g4 hi h1 h3 h4
      have st := signQ_ok (e := e) back16.1.1 i
      have hn : signQ e (i + 1) B.1 = (if eSg e i = eD e then mv (signQ e i B.1) i else signQ e i B.1) := rfl
      obtain ⟨v, hv, hv2, hv3⟩ := hs i (by omega)
      rw [wp_X8_begins_b77]
      refine pk_le W i (fun q => by omega) (fun _ => ⟨vp_in_nI (by omega) (by omega), ?_⟩)
      rw [nI_clamp (n := i) (by omega), hv2]
      refine ⟨fun q => ?_, fun q => ?_⟩
      · have c : eSg e i ≠ eD e := fun w => q (by rw [hv3.mpr w])
        rintro _ rfl
        rw [nI_1]
        exact ih (i + 1) g1 g2 g3 g4 (by omega) (by rw [hn, if_neg c]; exact h1) h3 h4
      · have c : eSg e i = eD e := hv3.mp ((nI_eq (by omega) (by omega)).mp q)
        have hb' := hb i (by omega)
        have hmem : ∀ x, x ∈ signQ e i B.1 → x < 16 := fun x hx => by
          rcases (st.2 x).mp hx with w | w
          · have := (hPW x ((back16.1.2.1 x).mp w)).1; omega
          · omega
        refine end_r h1 st.1 hmem (by omega) hb'.1 hb'.2 (fun f' z' hf => ?_)
        rintro _ rfl
        rw [nI_1]
        exact ih (i + 1) _ _ g3 g4 (by omega) (by rw [hn, if_pos c]; exact hf) h3 h4
  have loop : ∀ m i (g1 g2 g3 g4 : Nat → Int32), i + m = W → R_rows bk (backS e i s).1 g1 g2 → (∀ w, w < 16 → g3 w = onI ((backS e i s).2.1 w)) → (∀ w, w < 16 → g4 w = sv ((backS e i s).2.1 w)) → wp_X8_begins_b2 K to fd ud vs tx cb cs (nI W) jl jd (nI (eD e)) kn (m + 1) g1 g2 g3 g4 (nI i) := by
    intro m
    induction m with
    | zero =>
      intro i g1 g2 g3 g4 hi h1 h3 h4
      rw [wp_X8_begins_b2]
      refine pk_le W i (fun _ => ⟨W + 1, ?_⟩) (fun q => by omega)
      have : i = W := by omega
      subst this
      rw [← e16] at h1 h3 h4
      exact loop2 i 0 g1 g2 g3 g4 (by omega) h1 h3 h4
    | succ m ih =>
      intro i g1 g2 g3 g4 hi h1 h3 h4
      have st := backS_IV (e := e) hI i
      have hn : backS e (i + 1) s = backStep e i (backS e i s) := rfl
      rw [wp_X8_begins_b2]
      refine pk_le W i (fun q => by omega) (fun _ => ⟨vp_in_nI (by omega) (by omega), ?_⟩)
      rw [nI_clamp (n := i) (by omega), h3 i (by omega)]
      have same : (¬ ((backS e i s).2.1 i ≠ 1000 ∧ (backS e i s).2.2.1 i < eD e)) → ∀ y : Int32, y = nI i + 1 → wp_X8_begins_b2 K to fd ud vs tx cb cs (nI W) jl jd (nI (eD e)) kn (m + 1) g1 g2 g3 g4 y := by
        rintro q _ rfl
        rw [nI_1]
        refine ih (i + 1) g1 g2 g3 g4 (by omega) ?_ ?_ ?_ <;> rw [hn, back_f q] <;> assumption
      by_cases c : (backS e i s).2.1 i = 1000
      · rw [c, onI_t]
        exact ⟨fun _ => same (fun q => q.1 c), fun q => absurd rfl q⟩
      · have job := st.1.2.2.1 i c
        have sc := st.2.2 i c
        have jc' := hcd _ job.2.1
        have ji : (backS e i s).2.1 i = s.2.1 i := by
          clear ih same hn loop2 hK
          have : ∀ n, n ≤ i → (backS e n s).2.1 i = s.2.1 i := by
            intro n
            induction n with
            | zero => intro _; rfl
            | succ n ih2 =>
              intro hn2
              have a := ih2 (by omega)
              show (backStep e n (backS e n s)).2.1 i = s.2.1 i
              by_cases z : (backS e n s).2.1 n ≠ 1000 ∧ (backS e n s).2.2.1 n < eD e
              · rw [back_t z]
                show ap (backS e n s).2.1 n 1000 i = s.2.1 i
                rw [ap_n (by omega)]; exact a
              · rw [back_f z]; exact a
          exact this i (Nat.le_refl _)
        rw [onI_f c]
        refine ⟨fun q => absurd q one0, fun _ => ⟨vp_in_nI (by omega) (by omega), ?_⟩⟩
        have jl' := hL i (by omega) sc.1
        have e2 : (backS e i s).2.2.1 i = s.2.2.1 i := by rw [st.2.1]
        have l2 := job.2.2
        rw [e2] at l2
        have hb' := hb i (by have := hPW i job.1; omega)
        rw [jl'.1]
        by_cases q : s.2.2.1 i < eD e
        · have bt := back_t (e := e) (w := i) (s := backS e i s) ⟨c, by omega⟩
          have q1 : nI (s.2.2.1 i) = nI (eD e) - 1 := by
            rw [show (1 : Int32) = nI 1 from rfl, pk_sub (by omega), show s.2.2.1 i = eD e - 1 from by omega]
          refine ⟨fun _ => ⟨vp_in_nI (by omega) (by omega), vp_in_nI (by omega) (by omega), vp_in_nI (by omega) (by omega), hlaw _ ?_⟩, fun z => absurd q1 z⟩
          rw [jl'.2, ← ji, jc'.2.1, nar0]
          refine pk_le (eCf e ((backS e i s).2.1 i) 0) (eLw e 0) (fun q2 => ?_) (fun q2 => ?_)
          · rintro _ rfl
            rw [nI_1]
            refine ih (i + 1) g1 g2 _ _ (by omega) ?_ ?_ ?_
            · rw [hn, bt, if_neg (by omega)]; exact h1
            · rw [hn, bt]; exact on_ap h3 rfl
            · rw [hn, bt]; exact sv_ap h4 rfl
          · refine end_r h1 st.1.1 (fun x hx => by have := (hPW x ((st.1.2.1 x).mp hx)).1; omega) (by omega) hb'.1 hb'.2 (fun f' z' hf' => ?_)
            rintro _ rfl
            rw [nI_1]
            refine ih (i + 1) f' z' _ _ (by omega) ?_ ?_ ?_
            · rw [hn, bt, if_pos (by omega)]; exact hf'
            · rw [hn, bt]; exact on_ap h3 rfl
            · rw [hn, bt]; exact sv_ap h4 rfl
        · refine ⟨fun z => ?_, fun _ => same (fun w => by have := w.2; omega)⟩
          exfalso
          by_cases z0 : eD e = 0
          · rw [z0] at z
            exact ne_m1 (v := s.2.2.1 i) (by omega) (z.trans (by decide))
          · rw [show (1 : Int32) = nI 1 from rfl, pk_sub (by omega)] at z
            have := (nI_eq (by omega) (by omega)).mp z
            omega
  unfold wp_X8_begins
  exact ⟨W + 1, loop W 0 row many on jc (by omega) hR hO hJ⟩
