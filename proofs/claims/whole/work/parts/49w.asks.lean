/-! the reference's asks -/
def CXr (P : Nat → Prop) (e : EV) (c : Nat) (bk dy : Nat → Nat) (to fd ud vs cb pw ps pt pl hw_ hd_ hf_ ht_ csk cd crf : Nat → Int32) (tx kn pp hh : Int32) : Prop :=
  c < 60 ∧ okC e c ∧ (∀ j (K : Int32 → Prop), j < 5 → K (nI (eLw e j)) → wp_X8_lawOf to fd ud vs tx (nI j) (nI (eD e)) kn K) ∧ (∀ w, P w → w < 16 ∧ cb w = nI (bk w) ∧ bk w < 3 ∧ eBk e w = bk w)
  ∧ (∀ w, P w → (∀ K : Int32 → Prop, K (nI (eP e c w)) → wp_X8_hasPaper pw ps pt pl pp (nI w) (csk c) (nI (eD e)) K) ∧ eP e c w ≤ 1)
  ∧ (∀ w, P w → (∀ m (K : Int32 → Prop), m < 20000 → K (nI (eH e w m)) → wp_X8_isHere hw_ hd_ hf_ ht_ hh (nI w) (nI (eD e)) (nI m) K) ∧ ∀ m, eH e w m ≤ 1) ∧ crf c = eRf e c ∧ cd c = nI (eCf e c 0) ∧ dy c = eCf e c 0
theorem loop216_r {P G : Nat → Prop} {lo c sb : Nat} {bk dy : Nat → Nat} {e : EV} {to fd ud vs cb pw ps pt pl hw_ hd_ hf_ ht_ csk cd crf sn : Nat → Int32} {tx kn pp hh : Int32} {L : List Nat}
    {K : (Nat → Int32) → (Nat → Int32) → (Nat → Int32) → (Nat → Int32) → (Nat → Int32) → (Nat → Int32) → (Nat → Int32) → (Nat → Int32) → (Nat → Int32) → Int32 → Int32 → Int32 → Int32 → (Nat → Int32) → Prop}
    (hX : CXr P e c bk dy to fd ud vs cb pw ps pt pl hw_ hd_ hf_ ht_ csk cd crf tx kn pp hh) (hc : G c) (hlo : lo ≤ eD e + 1) (hL : RwL sn 0 L) (hL49 : L.length ≤ 17) (hLP : ∀ w, w ∈ L → P w) :
    ∀ (suf pre D : List Nat) (x : FS × Nat × Nat) (row many on jl jd jc rf wy mi : Nat → Int32) (dn : Int32), L = pre ++ suf → (∀ v, v < 16 → ((dn >>> (nI v &&& 31)) &&& 1 = 1 ↔ v ∈ D)) → IV P G lo x.1 → x.2.1 + 999 * suf.length < 19000 → x.2.2 ≤ 9 → sb ≤ x.1.2.2.2.2.2 → RM bk dy x.1 row many on jl jd jc rf wy mi →
    (∀ g1 g2 g3 g4 g5 g6 g7 g8 g9 ck lf dn', RM bk dy (askD e c suf D x) g1 g2 g3 g4 g5 g6 g7 g8 g9 → K g1 g2 g3 g4 g5 g6 g7 g8 g9 (nI ((askD e c suf D x).2.2.2.2.2 - sb)) ck lf dn' sn) →
    wp_X8_asks_b216 K to fd ud vs tx cb pw ps pt pl pp hw_ hd_ hf_ ht_ hh csk cd crf (nI c) (nI (eD e)) kn (suf.length + 1) row many on jl jd jc rf wy mi (nI (x.1.2.2.2.2.2 - sb)) (nI x.2.1) (nI x.2.2) dn sn (nI L.length) (nI pre.length) := by
  obtain ⟨hc60, ho, hlaw, hPb, hpap, hher, hrf, hcd, hdy⟩ := hX
  intro suf
  induction suf with
  | nil =>
    intro pre D x row many on jl jd jc rf wy mi dn hLe hdn hI hk h9 hsb hM hK
    rw [List.append_nil] at hLe
    rw [wp_X8_asks_b216]
    refine pk_le L.length pre.length (fun _ => hK _ _ _ _ _ _ _ _ _ _ _ _ hM) (fun q => by rw [hLe] at q; omega) (hb := by rw [← hLe]; omega)
  | cons w suf ih =>
    intro pre D x row many on jl jd jc rf wy mi dn hLe hdn hI hk h9 hsb hM hK
    have hln : L.length = pre.length + suf.length + 1 := by rw [hLe]; simp; omega
    rw [List.length_cons] at hk
    rw [wp_X8_asks_b216]
    refine pk_le L.length pre.length (fun q => by omega) (fun _ => ?_)
    rw [askD] at hK
    refine pk_le x.2.2 0 (fun q => ?_) (fun q => ⟨vp_in_nI (by omega) (by omega), ?_⟩)
    · rw [if_pos (by omega)] at hK
      exact hK _ _ _ _ _ _ _ _ _ _ _ _ hM
    · rw [if_neg (by omega)] at hK
      have hw := hLP w (by rw [hLe]; simp)
      have hw16 := (hPb w hw).1
      have hlw' : sn pre.length = nI w := by
        rw [hLe, RwL_app] at hL
        have := hL.2.1
        rw [Nat.zero_add] at this
        exact this
      have e2 : pre.length + 1 = (pre ++ [w]).length := by simp
      have e3 : L = pre ++ [w] ++ suf := by rw [hLe]; simp
      rw [nI_clamp (n := pre.length) (by omega), hlw']
      refine ⟨fun t => ?_, fun t => ?_⟩
      · have nD : w ∉ D := fun z => t ((hdn w hw16).mpr z)
        rw [if_neg nD] at hK
        refine ⟨vp_in_nI (by omega) (by omega), ?_⟩
        rintro _ rfl
        refine ⟨vp_in_nI (by omega) (by omega), ?_⟩
        have a := askS_IV (c := c) (w := w) hI hw hc (by omega) hlo ho.1 ho.2.1 (ho.2.2.1 2 (by omega))
        have m := askS_more (e := e) (c := c) (x := x) hw16
        refine comes_r (l := x.2.2) hI (fun v hv => (hPb v hv).1) hw hc60 (by omega) (by omega) h9 hsb hlaw ⟨(hPb w hw).2.1, (hPb w hw).2.2.1⟩ (hpap w hw).1 (hpap w hw).2 (hher w hw).1 (hher w hw).2 hrf ⟨hcd, ho.2.1⟩ hdy ho.1 hM (fun g1 g2 g3 g4 g5 g6 g7 g8 g9 hM' => ?_)
        rintro _ rfl
        rw [nI_1, e2]
        refine ih (pre ++ [w]) (w :: D) (askS e c w x) g1 g2 g3 g4 g5 g6 g7 g8 g9 _ e3 (fun v hv => ?_) a.1 (by omega) (by omega) (by omega) hM' hK
        rw [bit_or hv hw16, List.mem_cons, hdn v hv]
      · rw [if_pos ((hdn w hw16).mp t)] at hK
        rintro _ rfl
        rw [nI_1, e2]
        exact ih (pre ++ [w]) D x row many on jl jd jc rf wy mi dn e3 hdn hI (by omega) h9 hsb hM hK
theorem snap141_r {b mo : Nat} {row many wy : Nat → Int32} {K : (Nat → Int32) → (Nat → Int32) → (Nat → Int32) → (Nat → Int32) → (Nat → Int32) → (Nat → Int32) → (Nat → Int32) → (Nat → Int32) → (Nat → Int32) → Int32 → Int32 → Int32 → Int32 → (Nat → Int32) → Prop} {k131 : (Nat → Int32) → (Nat → Int32) → Int32 → Int32 → Int32 → Prop} {l : List Nat} (hb : b < 3) (hl : l.length ≤ 16) (hz : many b = nI l.length) (hR : RwL row (16 * b) l) :
    ∀ (suf pre g : List Nat) (sn : Nat → Int32), l = pre ++ suf → RwL sn 0 g → g.length + suf.length ≤ 49 → (∀ sn', RwL sn' 0 (g ++ suf) → k131 wy sn' (nI mo) (nI (g ++ suf).length) (nI (b + 1))) →
    wp_X8_asks_b141 K k131 row many (suf.length + 1) wy sn (nI mo) (nI g.length) (nI b) (nI pre.length) := by
  have ix : ∀ j, (16 : Int32) * nI b + nI j = nI (16 * b + j) := fun j => by rw [show (16 : Int32) = nI 16 from rfl, pk_mul, nI_add]
  intro suf
  induction suf with
  | nil =>
    intro pre g sn hl2 hg hlen hK
    rw [List.append_nil] at hl2 hK
    rw [wp_X8_asks_b141]
    refine ⟨vp_in_nI hb (by omega), ?_⟩
    have hln : l.length = pre.length := by rw [hl2]
    rw [nI_clamp (n := b) (by omega), hz]
    refine pk_le l.length pre.length (fun _ => ?_) (fun q => by omega)
    rintro _ rfl
    rw [nI_1]
    exact hK sn hg
  | cons x suf ih =>
    intro pre g sn hl2 hg hlen hK
    have hln : l.length = pre.length + suf.length + 1 := by rw [hl2]; simp; omega
    rw [List.length_cons] at hlen
    rw [wp_X8_asks_b141]
    refine ⟨vp_in_nI hb (by omega), ?_⟩
    rw [nI_clamp (n := b) (by omega), hz]
    refine pk_le l.length pre.length (fun q => by omega) (fun _ => ?_)
    rw [ix]
    refine ⟨vp_in_nI (by omega) (by omega), ?_⟩
    have hxx : row (16 * b + pre.length) = nI x := by
      rw [hl2, RwL_app] at hR
      exact hR.2.1
    rintro _ rfl
    refine ⟨vp_in_nI (by omega) (by omega), ?_⟩
    rintro _ rfl _ rfl
    rw [nI_clamp (n := 16 * b + pre.length) (by omega), hxx, nI_clamp (n := g.length) (by omega), nI_1, nI_1]
    have e2 : pre.length + 1 = (pre ++ [x]).length := by simp
    have e5 : g.length + 1 = (g ++ [x]).length := by simp
    have e3 : l = pre ++ [x] ++ suf := by rw [hl2]; simp
    have e4 : g ++ x :: suf = g ++ [x] ++ suf := by simp
    rw [e2, e5]
    rw [e4] at hK
    refine ih (pre ++ [x]) (g ++ [x]) _ e3 ?_ (by rw [List.length_append, List.length_singleton]; omega) hK
    rw [RwL_app]
    refine ⟨RwL_upd (Or.inr (by omega)) hg, ?_, trivial⟩
    rw [Nat.zero_add]; exact pk_us
theorem asks_r {P G : Nat → Prop} {lo c sb W : Nat} {bk dy : Nat → Nat} {e : EV} {s : FS} {to fd ud vs cb cs pw ps pt pl hw_ hd_ hf_ ht_ csk cd cwt cnm cmi crf sn row many on jl jd jc rf wy mi : Nat → Int32} {tx kn pp hh ck lf dn : Int32}
    {K : (Nat → Int32) → (Nat → Int32) → (Nat → Int32) → (Nat → Int32) → (Nat → Int32) → (Nat → Int32) → (Nat → Int32) → (Nat → Int32) → (Nat → Int32) → Int32 → Int32 → Int32 → Int32 → (Nat → Int32) → Prop}
    (hX : CXr P e c bk dy to fd ud vs cb pw ps pt pl hw_ hd_ hf_ ht_ csk cd crf tx kn pp hh) (hc : G c) (hlo : lo ≤ eD e + 1) (hI : IV P G lo s) (hW : W ≤ 16) (hsb : sb ≤ s.2.2.2.2.2) (hz : ∀ w, w < 16 → s.2.2.2.2.1 (16 * c + w) = 0)
    (hs : ∀ w, w < W → ∃ v, v < 100 ∧ cs w = nI v ∧ (v ≤ eD e ↔ eSg e w ≤ eD e)) (hs2 : ∀ w, W ≤ w → w < 16 → ¬ eSg e w ≤ eD e) (hPs : ∀ w, P w → w < W ∧ eSg e w ≤ eD e)
    (hmi : cmi c = nI (eCf e c 3)) (hwt : cwt c = nI (eCf e c 1)) (hnm : cnm c = sv (eCf e c 2)) (hnm2 : eCf e c 2 = 1000 ∨ P (eCf e c 2)) (hM : RM bk dy s row many on jl jd jc rf wy mi)
    (hK : ∀ g1 g2 g3 g4 g5 g6 g7 g8 g9 ck lf dn sn, RM bk dy (clS e s c) g1 g2 g3 g4 g5 g6 g7 g8 g9 → K g1 g2 g3 g4 g5 g6 g7 g8 g9 (nI ((clS e s c).2.2.2.2.2 - sb)) ck lf dn sn) :
    wp_X8_asks to fd ud vs tx cb cs (nI W) pw ps pt pl pp hw_ hd_ hf_ ht_ hh csk cd cwt cnm cmi crf row many on jl jd jc rf wy mi (nI (s.2.2.2.2.2 - sb)) ck lf dn sn (nI c) (nI (eD e)) kn K := by
  have hX0 := hX
  obtain ⟨hc60, ho, hlaw, hPb, -⟩ := hX0
  obtain ⟨M1, M2, M3, M4, M5, M6⟩ := hM
  have hf : firstS e c = 1000 ∨ P (firstS e c) := by
    unfold firstS
    split
    · exact hnm2
    · exact Or.inl rfl
  have hQ16 : ∀ w, w ∈ s.1 → w < 16 := fun w hw => (hPb w ((hI.2.1 w).mp hw)).1
  have rc : rowsR bk s.1 (mostS e) 0 = rowsS e s.1 := by rw [rowsS_R, rowsR_congr (fun w hw => (hPb w ((hI.2.1 w).mp hw)).2.2.2)]
  have rok := rowsR_ok (bk := bk) hI.1 (mostS e) 0
  have rlen : (rowsR bk s.1 (mostS e) 0).length ≤ 16 := nodup_len rok.1 (fun x hx => hQ16 x ((rok.2 x).mp hx).1)
  have hlen1 : (headS e c).length ≤ 1 := by unfold headS; split <;> simp
  have hhP : ∀ w, w ∈ headS e c → P w := by
    unfold headS
    split
    · rename_i q
      intro w hw
      rw [List.mem_singleton] at hw
      rw [hw]; exact hf.resolve_left q.1
    · exact fun w hw => absurd hw List.not_mem_nil
  have o3 := ho.2.2.2.1
  have o1 := ho.2.2.2.2
  have m23 := mostS_23 (e := e)
  have hI2 : IV P G lo (s.1, s.2.1, s.2.2.1, s.2.2.2.1, noteS e c s.2.2.2.2.1, s.2.2.2.2.2) := by
    refine ⟨hI.1, hI.2.1, hI.2.2.1, fun j => ?_⟩
    show noteS e c s.2.2.2.2.1 j < 160000
    unfold noteS
    split
    · omega
    · exact hI.2.2.2 j
  -- once the whys stand: the snapshot from book b on
  have rows : ∀ (wy1 : Nat → Int32), (∀ j, j < 960 → wy1 j = nI (noteS e c s.2.2.2.2.1 j % 8) ∧ mi j = mnI (noteS e c s.2.2.2.2.1 j)) → ∀ (m b : Nat) (g : List Nat) (sn1 : Nat → Int32), b + m = mostS e → RwL sn1 0 g → g ++ rowsR bk s.1 m b = headS e c ++ rowsR bk s.1 (mostS e) 0 →
      wp_X8_asks_b131 K to fd ud vs tx cb pw ps pt pl pp hw_ hd_ hf_ ht_ hh csk cd cwt cmi crf row many on jl jd jc rf mi (nI (s.2.2.2.2.2 - sb)) (nI c) (nI (eD e)) kn (m + 1) wy1 sn1 (nI (mostS e)) (nI g.length) (nI b) := by
    intro wy1 hwy m
    induction m with
    | zero =>
      intro b g sn1 hb hg hgl
      rw [rowsR, List.append_nil] at hgl
      rw [wp_X8_asks_b131]
      refine pk_le (mostS e) b (fun _ => ⟨vp_in_nI hc60 (by omega), ?_⟩) (fun q => by omega)
      rw [nI_clamp (n := c) (by omega), hmi, hwt]
      rintro _ rfl
      refine ⟨vp_in_nI hc60 (by omega), ?_⟩
      rintro _ rfl
      have gl : g.length ≤ 17 := by rw [hgl, List.length_append]; omega
      have dl := askD_line (e := e) (c := c) (Q := s.1) (x := ((s.1, s.2.1, s.2.2.1, s.2.2.2.1, noteS e c s.2.2.2.2.1, s.2.2.2.2.2), eCf e c 3, eCf e c 1)) hI.1 hQ16
      rw [← rc, ← hgl] at dl
      refine ⟨g.length + 1, loop216_r hX hc hlo hg gl (fun w hw => ?_) g [] [] ((s.1, s.2.1, s.2.2.1, s.2.2.2.1, noteS e c s.2.2.2.2.1, s.2.2.2.2.2), eCf e c 3, eCf e c 1) row many on jl jd jc rf wy1 mi 0 rfl (fun v hv => ⟨fun t => absurd t (bit_0 hv), fun t => absurd t List.not_mem_nil⟩) hI2 (by show eCf e c 3 + _ < _; omega) (by show eCf e c 1 ≤ 9; omega) hsb ⟨M1, M2, M3, M4, M5, hwy⟩ ?_⟩
      · rw [hgl, List.mem_append] at hw
        rcases hw with t | t
        · exact hhP w t
        · exact (hI.2.1 w).mp ((rok.2 w).mp t).1
      · rw [dl]
        exact fun g1 g2 g3 g4 g5 g6 g7 g8 g9 ck lf dn' h => hK g1 g2 g3 g4 g5 g6 g7 g8 g9 ck lf dn' _ h
    | succ m ih =>
      intro b g sn1 hb hg hgl
      have hB := M1 b (by omega)
      have hlb : (QB bk s.1 b).length ≤ 16 := nodup_len (QB_nodup hI.1) (fun x hx => hQ16 x (QB_mem.mp hx).1)
      have tot : g.length + (rowsR bk s.1 (m + 1) b).length ≤ 17 := by
        have := congrArg List.length hgl
        rw [List.length_append, List.length_append] at this
        omega
      rw [rowsR] at hgl tot
      rw [List.length_append] at tot
      rw [wp_X8_asks_b131]
      refine pk_le (mostS e) b (fun q => by omega) (fun _ => ⟨(QB bk s.1 b).length + 1, ?_⟩)
      have := snap141_r (b := b) (mo := mostS e) (wy := wy1) (K := K) (k131 := fun a1 a2 a3 a4 a5 => wp_X8_asks_b131 K to fd ud vs tx cb pw ps pt pl pp hw_ hd_ hf_ ht_ hh csk cd cwt cmi crf row many on jl jd jc rf mi (nI (s.2.2.2.2.2 - sb)) (nI c) (nI (eD e)) kn (m + 1) a1 a2 a3 a4 a5) (by omega) hlb hB.1 hB.2 (QB bk s.1 b) [] g sn1 rfl hg (by omega) (fun sn' h' => ih (b + 1) (g ++ QB bk s.1 b) sn' (by omega) h' (by rw [List.append_assoc]; exact hgl))
      exact this
  have b63 : ∀ (wy1 : Nat → Int32), (∀ j, j < 960 → wy1 j = nI (noteS e c s.2.2.2.2.1 j % 8) ∧ mi j = mnI (noteS e c s.2.2.2.2.1 j)) →
      wp_X8_asks_b63 K to fd ud vs tx cb cs pw ps pt pl pp hw_ hd_ hf_ ht_ hh csk cd cwt cnm cmi crf row many on jl jd jc rf mi (nI (s.2.2.2.2.2 - sb)) sn (nI c) (nI (eD e)) kn wy1 (nI (mostS e)) := by
    intro wy1 hwy
    have no : headS e c = [] → ∃ n131, wp_X8_asks_b131 K to fd ud vs tx cb pw ps pt pl pp hw_ hd_ hf_ ht_ hh csk cd cwt cmi crf row many on jl jd jc rf mi (nI (s.2.2.2.2.2 - sb)) (nI c) (nI (eD e)) kn n131 wy1 sn (nI (mostS e)) 0 0 :=
      fun h => ⟨mostS e + 1, rows wy1 hwy (mostS e) 0 [] sn (by omega) trivial (by rw [h])⟩
    unfold wp_X8_asks_b63
    refine ⟨vp_in_nI hc60 (by omega), ?_⟩
    rw [nI_clamp (n := c) (by omega), hnm]
    rintro _ rfl
    refine hlaw 4 _ (by omega) ?_
    have l4 := ho.2.2.1 4 (by omega)
    by_cases q : eLw e 4 = 1
    · have hfi : firstS e c = eCf e c 2 := by unfold firstS; rw [if_pos q]
      rw [q]
      refine ⟨fun z => absurd rfl z, fun _ => ?_⟩
      by_cases c1 : eCf e c 2 = 1000
      · refine br_t (by rw [c1]; rfl) (no ?_)
        unfold headS; rw [if_neg (fun z => z.1 (by rw [hfi]; exact c1))]
      · have pf := hnm2.resolve_left c1
        have pb := hPb _ pf
        have ps' := hPs _ pf
        have f16 := pb.1
        have hD := ho.1
        rw [sv_ne c1]
        refine br_f (ne_m1 (by omega)) ⟨vp_in_nI f16 (by omega), ?_⟩
        rw [nI_clamp (n := eCf e c 2) (by omega)]
        obtain ⟨v, v1, v2, v3⟩ := hs _ ps'.1
        rw [v2, pb.2.1]
        refine pk_lt (eD e) v (fun z => by have := v3.mpr ps'.2; omega) (fun _ => ⟨vp_in_nI f16 (by omega), ?_⟩)
        refine pk_le (mostS e) (bk (eCf e c 2)) (fun z => no ?_) (fun z => ⟨vp_in_nI (N := 49) (n := 0) (by omega) (by omega), ?_⟩)
        · unfold headS; rw [if_neg (fun t => by have := t.2; rw [hfi, pb.2.2.2] at this; omega)]
        · rintro _ rfl
          have hh2 : headS e c = [eCf e c 2] := by unfold headS; rw [if_pos ⟨by rw [hfi]; exact c1, by rw [hfi, pb.2.2.2]; omega⟩, hfi]
          refine ⟨mostS e + 1, rows wy1 hwy (mostS e) 0 [eCf e c 2] _ (by omega) ⟨?_, trivial⟩ (by rw [hh2])⟩
          exact pk_us
    · refine ⟨fun _ => no ?_, fun z => absurd ((nI_eq (b := 1) (by omega) (by omega)).mp z) q⟩
      unfold headS firstS
      rw [if_neg (fun z => z.1 (by rw [if_neg q]))]
  have loop : ∀ m i (g : Nat → Int32), i + m = W → (∀ j, j < 960 → g j = nI ((if j / 16 = c ∧ j % 16 < i ∧ eSg e (j % 16) ≤ eD e then 6 else s.2.2.2.2.1 j) % 8)) → wp_X8_asks_b3 K to fd ud vs tx cb cs (nI W) pw ps pt pl pp hw_ hd_ hf_ ht_ hh csk cd cwt cnm cmi crf row many on jl jd jc rf mi (nI (s.2.2.2.2.2 - sb)) sn (nI c) (nI (eD e)) kn (m + 1) g (nI i) := by
    intro m
    induction m with
    | zero =>
      intro i g hi hg
      rw [wp_X8_asks_b3]
      refine pk_le W i (fun _ => hlaw 3 _ (by omega) ?_) (fun q => by omega)
      have hwy : ∀ j, j < 960 → g j = nI (noteS e c s.2.2.2.2.1 j % 8) ∧ mi j = mnI (noteS e c s.2.2.2.2.1 j) := by
        intro j hj
        by_cases q : j / 16 = c ∧ eSg e (j % 16) ≤ eD e
        · have : j % 16 < i := by
            by_cases t : j % 16 < i
            · exact t
            · exact absurd q.2 (hs2 (j % 16) (by omega) (by omega))
          have e1 : noteS e c s.2.2.2.2.1 j = 6 := if_pos q
          rw [hg j hj, if_pos ⟨q.1, this, q.2⟩, e1, (M6 j hj).2]
          have := hz (j % 16) (by omega)
          rw [show 16 * c + j % 16 = j from by omega] at this
          rw [this]
          exact ⟨rfl, rfl⟩
        · have e1 : noteS e c s.2.2.2.2.1 j = s.2.2.2.2.1 j := if_neg q
          rw [hg j hj, if_neg (fun t => q ⟨t.1, t.2.2⟩), e1]
          exact ⟨rfl, (M6 j hj).2⟩
      have l3 := ho.2.2.1 3 (by omega)
      have b := b63 g hwy
      unfold mostS at b
      by_cases q : eLw e 3 = 1
      · rw [if_pos q] at b
        rw [q]
        exact ⟨fun z => absurd rfl z, fun _ => b⟩
      · rw [if_neg q] at b
        exact ⟨fun _ => b, fun z => absurd ((nI_eq (b := 1) (by omega) (by omega)).mp z) q⟩
    | succ m ih =>
      intro i g hi hg
      obtain ⟨v, hv, hv2, hv3⟩ := hs i (by omega)
      have ix : (16 : Int32) * nI c + nI i = nI (16 * c + i) := by rw [show (16 : Int32) = nI 16 from rfl, pk_mul, nI_add]
      have hD := ho.1
      have hzi := hz i (by omega)
      rw [wp_X8_asks_b3]
      refine pk_le W i (fun q => by omega) (fun _ => ⟨vp_in_nI (by omega) (by omega), ?_⟩)
      rw [nI_clamp (n := i) (by omega), hv2, ix]
      refine pk_lt (eD e) v (fun q => ⟨vp_in_nI (by omega) (by omega), ?_⟩) (fun q => ⟨vp_in_nI (by omega) (by omega), ?_⟩)
      · rintro _ rfl
        rw [nI_1, nI_clamp (n := 16 * c + i) (by omega)]
        have nq : ¬ eSg e i ≤ eD e := fun t => by have := hv3.mpr t; omega
        refine ih (i + 1) _ (by omega) (fun j hj => ?_)
        by_cases y : j = 16 * c + i
        · subst y
          rw [pk_us, if_neg (fun u => by rw [show (16 * c + i) % 16 = i from by omega] at u; exact nq u.2.2), hzi]
          rfl
        · rw [pk_un y, hg j hj]
          by_cases t : j / 16 = c ∧ j % 16 < i ∧ eSg e (j % 16) ≤ eD e
          · rw [if_pos t, if_pos ⟨t.1, by omega, t.2.2⟩]
          · rw [if_neg t, if_neg (fun u => t ⟨u.1, by omega, u.2.2⟩)]
      · rintro _ rfl
        rw [nI_1, nI_clamp (n := 16 * c + i) (by omega)]
        refine ih (i + 1) _ (by omega) (fun j hj => ?_)
        by_cases y : j = 16 * c + i
        · subst y
          rw [pk_us, if_pos ⟨by omega, by omega, by rw [show (16 * c + i) % 16 = i from by omega]; exact hv3.mp q⟩]
          rfl
        · rw [pk_un y, hg j hj]
          by_cases t : j / 16 = c ∧ j % 16 < i ∧ eSg e (j % 16) ≤ eD e
          · rw [if_pos t, if_pos ⟨t.1, by omega, t.2.2⟩]
          · rw [if_neg t, if_neg (fun u => t ⟨u.1, by omega, u.2.2⟩)]
  unfold wp_X8_asks
  exact ⟨W + 1, loop W 0 wy (by omega) (fun j hj => by rw [if_neg (fun t => by omega)]; exact (M6 j hj).1)⟩
