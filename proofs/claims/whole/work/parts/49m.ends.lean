/-! the reference's comesToEnd; signing on -/
theorem shut_r {b w n : Nat} {z : Nat → Int32} {K : (Nat → Int32) → (Nat → Int32) → Prop} (hw : w < 16) (hb : b < 3) (hz : z b = nI n) (hn : n ≤ 16) : ∀ (suf g : List Nat) (f : Nat → Int32) (k : Nat), k + suf.length = n → g.length ≤ k → g.length + (suf.filter (fun x => decide (x ≠ w))).length < 16 → (∀ x, x ∈ suf → x < 16) → RwL f (16 * b) g → RwL f (16 * b + k) suf →
    (∀ f', RwL f' (16 * b) (g ++ suf.filter (fun x => decide (x ≠ w)) ++ [w]) → (∀ j, j < 16 * b ∨ 16 * b + 16 ≤ j → f' j = f j) → K f' (upd z b (nI (g ++ suf.filter (fun x => decide (x ≠ w)) ++ [w]).length))) →
    wp_X8_comesToEnd_b12 K z (nI w) (suf.length + 1) f (nI b) (nI g.length) (nI k) := by
  have ix : ∀ j, j < 16 → (16 : Int32) * nI b + nI j = nI (16 * b + j) := fun j _ => by rw [show (16 : Int32) = nI 16 from rfl, pk_mul, nI_add]
  intro suf
  induction suf with
  | nil =>
    intro g f k hk hg hl hx hG hS hK
    rw [List.length_nil] at hk
    rw [wp_X8_comesToEnd_b12]
    refine ⟨vp_in_nI hb (by omega), ?_⟩
    rw [nI_clamp (n := b) (by omega), hz]
    have hl' : g.length < 16 := by simpa using hl
    refine pk_le n k (fun _ => ?_) (fun q => by omega)
    rw [ix g.length hl']
    refine ⟨vp_in_nI (by omega) (by omega), ?_⟩
    rintro _ rfl
    refine ⟨vp_in_nI hb (by omega), ?_⟩
    rw [nI_1, nI_clamp (by omega)]
    have := hK (upd f (16 * b + g.length) (nI w)) (by
      rw [List.filter_nil, List.append_nil, RwL_app]
      exact ⟨RwL_upd (Or.inr (Nat.le_refl _)) hG, pk_us, trivial⟩) (fun j hj => pk_un (by omega))
    simpa using this
  | cons x suf ih =>
    intro g f k hk hg hl hx hG hS hK
    rw [List.length_cons] at hk
    rw [wp_X8_comesToEnd_b12]
    have hx0 := hx x List.mem_cons_self
    refine ⟨vp_in_nI hb (by omega), ?_⟩
    rw [nI_clamp (n := b) (by omega), hz]
    refine pk_le n k (fun q => by omega) (fun _ => ?_)
    rw [ix k (by omega)]
    refine ⟨vp_in_nI (by omega) (by omega), ?_⟩
    rw [nI_clamp (n := 16 * b + k) (by omega), hS.1]
    by_cases c : x = w
    · subst c
      refine ⟨fun q => absurd rfl q, fun _ => ?_⟩
      rintro _ rfl
      rw [nI_1]
      rw [List.filter_cons_of_neg (by simp)] at hK hl
      exact ih g f (k + 1) (by omega) (by omega) hl (fun y hy => hx y (List.mem_cons_of_mem _ hy)) hG hS.2 hK
    · rw [List.filter_cons_of_pos (by simp [c])] at hK hl
      rw [List.length_cons] at hl
      refine ⟨fun _ => ⟨vp_in_nI (by omega) (by omega), ?_⟩, fun q => absurd ((nI_eq (by omega) (by omega)).mp q) c⟩
      rintro _ rfl
      rw [ix g.length (by omega)]
      refine ⟨vp_in_nI (by omega) (by omega), ?_⟩
      rintro _ rfl _ rfl
      rw [nI_1, nI_1, nI_clamp (by omega)]
      have e2 : g.length + 1 = (g ++ [x]).length := by simp
      rw [e2]
      have e3 : g ++ x :: suf.filter (fun x => decide (x ≠ w)) = g ++ [x] ++ suf.filter (fun x => decide (x ≠ w)) := by simp
      rw [e3] at hK
      refine ih (g ++ [x]) _ (k + 1) (by omega) (by simp; omega) (by rw [List.length_append, List.length_singleton]; omega) (fun y hy => hx y (List.mem_cons_of_mem _ hy)) ?_ (RwL_upd (Or.inl (by omega)) hS.2) (fun f' h1 h2 => hK f' h1 (fun j hj => by rw [h2 j hj, pk_un (by omega)]))
      rw [RwL_app]; exact ⟨RwL_upd (Or.inr (Nat.le_refl _)) hG, pk_us, trivial⟩
theorem end_r {bk : Nat → Nat} {Q : List Nat} {w : Nat} {f z cb : Nat → Int32} {K : (Nat → Int32) → (Nat → Int32) → Prop} (hR : R_rows bk Q f z) (hd : Q.Nodup) (hQ : ∀ x, x ∈ Q → x < 16) (hw : w < 16) (hb : cb w = nI (bk w)) (hb3 : bk w < 3)
    (hK : ∀ f' z', R_rows bk (mv Q w) f' z' → K f' z') : wp_X8_comesToEnd cb f z (nI w) K := by
  have hB := hR (bk w) hb3
  have hlen : (QB bk Q (bk w)).length ≤ 16 := nodup_len (QB_nodup hd) (fun x hx => hQ x (QB_mem.mp hx).1)
  have hlen2 : (mv (QB bk Q (bk w)) w).length ≤ 16 := nodup_len (mv_nodup (QB_nodup hd)) (fun x hx => by
    rcases mv_mem.mp hx with q | q
    · rw [q]; exact hw
    · exact hQ x (QB_mem.mp q).1)
  unfold wp_X8_comesToEnd
  refine ⟨vp_in_nI hw (by omega), ?_⟩
  rintro _ rfl
  rw [nI_clamp (by omega), hb]
  refine ⟨(QB bk Q (bk w)).length + 1, ?_⟩
  unfold mv at hlen2
  rw [List.length_append, List.length_singleton] at hlen2
  refine shut_r hw hb3 hB.1 hlen (QB bk Q (bk w)) [] f 0 (by omega) (by simp) (by rw [List.length_nil]; omega) (fun x hx => hQ x (QB_mem.mp hx).1) trivial hB.2 (fun f' h1 h2 => hK f' _ (fun b hb' => ?_))
  rw [List.nil_append] at h1 ⊢
  by_cases c : b = bk w
  · subst c
    rw [QB_mv_s, pk_us]
    exact ⟨rfl, h1⟩
  · rw [QB_mv_o c, pk_un c]
    have hlb : (QB bk Q b).length ≤ 16 := nodup_len (QB_nodup hd) (fun x hx => hQ x (QB_mem.mp hx).1)
    exact ⟨(hR b hb').1, RwL_congr (fun k k1 k2 => h2 k (by omega)) (hR b hb').2⟩
/-- the class signs a worker on -/
theorem sign_rows {bk : Nat → Nat} {Q : List Nat} {w : Nat} {f z : Nat → Int32} (hR : R_rows bk Q f z) (hd : Q.Nodup) (hQ : ∀ x, x ∈ Q → x < 16) (hw : w < 16) (hn : w ∉ Q) (hb3 : bk w < 3) :
    (QB bk Q (bk w)).length < 16 ∧ R_rows bk (mv Q w) (upd f (16 * bk w + (QB bk Q (bk w)).length) (nI w)) (upd z (bk w) (nI ((QB bk Q (bk w)).length + 1))) := by
  have hB := hR (bk w) hb3
  have hnn : w ∉ QB bk Q (bk w) := fun q => hn (QB_mem.mp q).1
  have hlen2 : (mv (QB bk Q (bk w)) w).length ≤ 16 := nodup_len (mv_nodup (QB_nodup hd)) (fun x hx => by
    rcases mv_mem.mp hx with q | q
    · rw [q]; exact hw
    · exact hQ x (QB_mem.mp q).1)
  rw [mv_new hnn, List.length_append, List.length_singleton] at hlen2
  refine ⟨by omega, fun b hb' => ?_⟩
  by_cases c : b = bk w
  · subst c
    rw [QB_mv_s, mv_new hnn, pk_us, RwL_app, List.length_append, List.length_singleton]
    exact ⟨rfl, RwL_upd (Or.inr (Nat.le_refl _)) hB.2, pk_us, trivial⟩
  · rw [QB_mv_o c, pk_un c]
    have hlb : (QB bk Q b).length ≤ 16 := nodup_len (QB_nodup hd) (fun x hx => hQ x (QB_mem.mp hx).1)
    exact ⟨(hR b hb').1, RwL_upd (by omega) (hR b hb').2⟩
