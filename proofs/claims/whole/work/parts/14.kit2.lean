theorem mk_new_i (n : Nat) : ∀ cA : ClassId, vp_cell cA (n, .inl (fun _ => 0)) = arrV cA n (fun _ => defaultValue .int) := fun cA => vp_cell_i cA n _
theorem mk_new_z (n : Nat) : ∀ cA : ClassId, vp_cell cA (n, .inl (fun _ => 0)) = arrV cA n (fun _ => defaultValue .boolean) := fun cA => vp_cell_i cA n _
theorem mk_absH {P : Heap → Prop} {H0 : Heap} (k : ∀ H, H = H0 → P H) : P H0 := k H0 rfl
section MKR
variable {p : Program} {l : Launch} {e : Env} {R : Room} {s : State} {m : MethodId} {args : Array Value} {below : List Frame} {meth : Method} {c : Code} {H : Heap} {locs : List Loc} {cells slots : Nat} {Q : State → Prop}
variable {pc : Nat} {ls : Array Slot} {rest st0 : List Value} {a : Array Value} {A : Nat → Prop} {H0 : Heap} {D : va_G} {cI cZ : ClassId} {w : va_W} {f : va_W → va_W} {E : (Nat → Nat) × (Nat → Nat)}
theorem mk_cr {post : Nat → Prop} (FR : mk_Frame f) (hr : va_Run p l e R s m args below meth c H locs cells slots 0 0 (F0 m pc ls st0) rest (va_Qr post (fun u b t => b = E.1 u ∧ mk_B D cI cZ (va_A w H.size) w t) (va_A w H.size) a) (va_A w H.size)) (hP : va_P D vwCl (f w) H) (hD : va_D A (f w)) (hS : va_S A H0 H locs) (hA : ∀ q, H0.size ≤ q → A q)
    (kk : ∀ (u : Nat) (H1 : Heap) (locs1 : List Loc), post u → va_P D vwCl (f w) H1 → va_D A (f w) → va_S A H0 H1 locs1 → W p l e R s m args below meth c H1 locs1 cells slots Q (F0 m (pc + 3) ls (.ref (E.1 u) :: rest))) : W p l e R s m args below meth c H locs cells slots Q (F0 m pc ls st0) := by
  obtain ⟨hw, dw, kf⟩ := FR hP hD
  have hF : ∀ q, va_A w H.size q → A q := fun q h => by
    rcases h with ⟨k, e, h⟩ | h
    · exact dw.2 k _ h
    · exact hA q (Nat.le_trans hS.1 h)
  refine va_callr hr hS (fun q _ h => hF q h) hF (fun u ra t H1 locs1 ht hvm hw1 hB hz1 hk1 hS1 => ?_)
  obtain ⟨rfl, b1, b2, b3⟩ := hB
  rw [ht] at b1
  obtain ⟨p1, d1⟩ := kf hk1 hF b1 b3
  exact kk u H1 locs1 hw1 p1 d1 hS1
theorem mk_cw {S : Type} {mc ms : Nat} {post : S → Prop} {Wd : S → va_W} (FR : mk_Frame f) (hr : va_Run p l e R s m args below meth c H locs cells slots mc ms (F0 m pc ls st0) rest (va_Qv post (fun u t => mk_B D cI cZ (va_A w H.size) (Wd u) t) (va_A w H.size) a) (va_A w H.size)) (hP : va_P D vwCl (f w) H) (hD : va_D A (f w)) (hS : va_S A H0 H locs) (hA : ∀ q, H0.size ≤ q → A q)
    (kk : ∀ (u : S) (H1 : Heap) (locs1 : List Loc), post u → va_P D vwCl (f (Wd u)) H1 → va_D A (f (Wd u)) → va_S A H0 H1 locs1 → W p l e R s m args below meth c H1 locs1 (cells + mc) (slots + ms) Q (F0 m (pc + 3) ls rest)) : W p l e R s m args below meth c H locs cells slots Q (F0 m pc ls st0) := by
  obtain ⟨hw, dw, kf⟩ := FR hP hD
  have hF : ∀ q, va_A w H.size q → A q := fun q h => by
    rcases h with ⟨k, e, h⟩ | h
    · exact dw.2 k _ h
    · exact hA q (Nat.le_trans hS.1 h)
  refine va_callv hr hS (fun q _ h => hF q h) hF (fun u t H1 locs1 ht hvm hw1 hB hz1 hk1 hS1 => ?_)
  obtain ⟨b1, b2, b3⟩ := hB
  rw [ht] at b1
  obtain ⟨p1, d1⟩ := kf hk1 hF b1 b3
  exact kk u H1 locs1 hw1 p1 d1 hS1
theorem mk_cA {cA : ClassId} (hK : va_K D vwCl (mk_tys cI cZ) s) (h2 : va_K D vwCl (mk_tys cI cZ ++ [(cA, .int)]) s) : cA = cI := by
  have a := (h2.2 2 (cA, .int) rfl).2
  have b := (hK.2 0 (cI, .int) rfl).2
  exact Option.some.inj ((show s.vm.findClass ("[" ++ (FieldType.int).toString) = some cA from a).symm.trans (show s.vm.findClass ("[" ++ (FieldType.int).toString) = some cI from b))
theorem mk_cB {cA : ClassId} (hK : va_K D vwCl (mk_tys cI cZ) s) (h2 : va_K D vwCl (mk_tys cI cZ ++ [(cA, .boolean)]) s) : cA = cZ := by
  have a := (h2.2 2 (cA, .boolean) rfl).2
  have b := (hK.2 1 (cZ, .boolean) rfl).2
  exact Option.some.inj ((show s.vm.findClass ("[" ++ (FieldType.boolean).toString) = some cA from a).symm.trans (show s.vm.findClass ("[" ++ (FieldType.boolean).toString) = some cZ from b))
end MKR
