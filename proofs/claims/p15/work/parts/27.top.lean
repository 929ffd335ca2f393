/-! the beginning -/
theorem oc_I0 : oc_I 32 32 2 0 0 0 (-1) (oc_in 512) (fun _ => 0) (fun _ => 0) (fun _ => 0) (fun _ => 0) (fun _ => 0) (fun _ => 0) (fun _ => 0) (fun _ => 0) (fun _ => 0) (fun _ => 0) := by
  refine ⟨by omega, by omega, by omega, by omega, by omega, by omega, by omega, fun n hn => absurd hn (Nat.not_lt_zero _), ⟨fun l hl => oc_in_lt _ _ (by omega), fun t ht => ⟨?_, fun l hl => Or.inl (oc_in_lt _ _ (by omega))⟩⟩, fun _ _ => rfl, fun n p hn => absurd hn (Nat.not_lt_zero _), fun n hn => absurd hn (Nat.not_lt_zero _), Or.inl rfl⟩
  have : oc_lc (oc_in 512) t = 0 := oc_sm_z 16 fun i hi => if_pos (oc_in_lt _ _ (by omega))
  rw [this, nI_0]
theorem oc_ini {post : St2 → Prop} {mc ms kc ks : Nat} (h : post (32, 32, 2, 0, -1, -1, 0, 0, 0, 0, -1, oc_in 512, fun _ => 0, fun _ => 0, fun _ => 0, fun _ => 0, fun _ => 0, fun _ => 0, fun _ => 0, fun _ => 0, fun _ => 0, fun _ => 0, fun _ => 0, fun _ => 0, fun _ => 0, fun _ => 0, fun _ => 0, fun _ => 0, fun _ => 0, fun _ => 0, fun _ => 0)) :
    ∀ n i, i + n = 512 → wX_init_242 post mc ms kc ks 32 32 2 0 (-1) (-1) 0 0 0 0 (-1) (n + 1) (nI i) (oc_in i) (fun _ => 0) (fun _ => 0) (fun _ => 0) (fun _ => 0) (fun _ => 0) (fun _ => 0) (fun _ => 0) (fun _ => 0) (fun _ => 0) (fun _ => 0) (fun _ => 0) (fun _ => 0) (fun _ => 0) (fun _ => 0) (fun _ => 0) (fun _ => 0) (fun _ => 0) (fun _ => 0) (fun _ => 0) := by
  intro n
  induction n with
  | zero =>
    intro i hi
    rw [show i = 512 by omega]
    exact br_t (nI_le (a := 512) (by omega) (by omega)) h
  | succ n ih =>
    intro i hi
    refine br_f (nI_ge (b := 512) (by omega) (by omega)) ⟨vp_in_nI (by omega) (by omega), nm_e (nm_r (nI_1 i) ?_)⟩
    rw [nI_clamp (n := i) (by omega)]
    exact ih (i + 1) (by omega)
theorem i_vc (xs : Nat → Int32) (L : Nat) (hL : L ≤ 260) : wpL_law (fun r => r = 1) L xs := by
  unfold wpL_law
  refine ⟨20, 2768, by omega, by omega, ?_⟩
  unfold wpX_init
  refine ⟨by omega, by omega, by omega, by omega, by omega, by omega, by omega, by omega, by omega, by omega, by omega, by omega, by omega, by omega, by omega, by omega, by omega, by omega, by omega, by omega, by omega, by omega, by omega, by omega, by omega, by omega, by omega, by omega, by omega, by omega, by omega, by omega, by omega, by omega, by omega, by omega, by omega, by omega, by omega, by omega, ?_⟩
  refine br_t (by decide) (br_t (by decide) (br_t (by decide) (br_t (by decide) ⟨513, oc_ini ?_ 512 0 rfl⟩)))
  refine ⟨by decide, nm_r (e' := nI ((L + 3) / 4)) ?_ ⟨(L + 3) / 4 + 33, ?_⟩⟩
  · rw [show (Int32.ofNat L) + 3 = nI (L + 3) from nI_add L 3]
    exact pk_div (a := L + 3) (d := 4) (by omega) (by omega) (by omega)
  · exact oc_27 (post := fun r => r = 1) hL (by omega) rfl ((L + 3) / 4 + 32) 0 (by omega) 2 0 (NC := 32) (TC := 32) (tc := 2) (nc := 0) (us := 0) (ob := 0) oc_I0
