/-! the byte at a place, as the class reads it -/
theorem by_u (x : Int32) {n : Nat} (hn : n ≤ 24) : (x.toUInt32 >>> ((nI n).toUInt32 &&& Int32.toUInt32 31)).toInt32 &&& 255 = (x >>> (nI n &&& 31)) &&& 255 := by
  refine b_ext (fun i hi => ?_)
  rw [b_and, b_and, b_255, b_ushr n (by omega), b_sshr n (by omega) x hi]
  by_cases c : i < 8
  · rw [if_pos (by omega)]
  · simp [c]
theorem byteAt_ok {L p : Nat} {f : Nat → Int32} {K : Int32 → Prop} (hL : L ≤ 800) (hp : p < L) (hK : K (by_ (f (p / 4)) (p % 4))) : wp_X6_byteAt f (nI L) (nI p) K := by
  have ee : (24 : Int32) - 8 * (nI p - nI p / 4 * 4) = nI (24 - 8 * (p % 4)) := by
    rw [show (4 : Int32) = nI 4 from rfl, pk_rem (by omega) (by omega) (by omega), show (8 : Int32) = nI 8 from rfl, pk_mul, show (24 : Int32) = nI 24 from rfl, pk_sub (by omega)]
  have e4 : nI p / 4 = nI (p / 4) := by rw [show (4 : Int32) = nI 4 from rfl, pk_div (by omega) (by omega) (by omega)]
  unfold wp_X6_byteAt
  refine br_f (nI_pos (by omega)) ?_
  refine pk_lt p L (fun _ => ?_) (fun h => absurd h (by omega))
  rw [ee, e4, nI_clamp (show p / 4 < 2 ^ 31 by omega), by_u _ (by omega)]
  exact ⟨vp_in_nI (by omega) (by omega), hK⟩
theorem by_nat (x : Int32) (r : Nat) : ∃ v, v < 256 ∧ by_ x r = nI v := pk_andE _ 8 (by decide)
