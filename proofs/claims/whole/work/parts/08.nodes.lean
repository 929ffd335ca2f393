/-! the node table -/
theorem oc_xnode {NC TC tc nc us ob : Nat} {fail res fl fc val : Int32} {tm mk kd par num ann rcv bod mc ml mb cd cb ce org co cr fn fe fp : Nat → Int32} {post : Int32 → SX → Prop} {p0 p1 p2 : Int32} (hn : nc < 32)
    (h : post (nI nc) (nI NC, nI TC, nI tc, nI (nc + 1), fail, res, fl, nI us, nI ob, fc, val, tm, mk, upd kd nc p0, upd par nc (-1), upd num nc p1, upd ann nc p2, upd rcv nc (-1), upd bod nc (-1), mc, ml, mb, cd, cb, ce, org, co, cr, fn, fe, fp)) : wpX_newNode post (nI NC, nI TC, nI tc, nI nc, fail, res, fl, nI us, nI ob, fc, val, tm, mk, kd, par, num, ann, rcv, bod, mc, ml, mb, cd, cb, ce, org, co, cr, fn, fe, fp) p0 p1 p2 := by
  have hi : vp_in (nI nc) 32 := vp_in_nI hn (by omega)
  refine ⟨hi, nm_e ⟨hi, nm_e ⟨hi, nm_e ⟨hi, nm_e ⟨hi, nm_e ⟨hi, nm_e (nm_e ?_)⟩⟩⟩⟩⟩⟩
  rw [nI_clamp (n := nc) (by omega), nI_1]
  exact h
theorem oc_ynode {NC TC tc nc us ob : Nat} {fail sp ret fu res : Int32} {tm kY nk rcv bod ann par mc ml mb rt rn cb oe org co cr gn ge gd gs : Nat → Int32} {post : Int32 → SY → Prop} {p0 p1 p2 p3 p4 : Int32} (hn : nc < 32) (hm : mc nc = 0)
    (h : post (nI nc) (nI NC, nI TC, nI tc, nI (nc + 1), fail, sp, ret, nI us, nI ob, fu, res, tm, upd kY nc p0, upd nk nc p1, upd rcv nc p2, upd bod nc p3, upd ann nc p4, upd par nc (-1), mc, ml, mb, rt, rn, cb, oe, org, co, cr, gn, ge, gd, gs)) : wpY_newNode post (nI NC, nI TC, nI tc, nI nc, fail, sp, ret, nI us, nI ob, fu, res, tm, kY, nk, rcv, bod, ann, par, mc, ml, mb, rt, rn, cb, oe, org, co, cr, gn, ge, gd, gs) p0 p1 p2 p3 p4 := by
  have hi : vp_in (nI nc) 32 := vp_in_nI hn (by omega)
  refine ⟨hi, nm_e ⟨hi, nm_e ⟨hi, nm_e ⟨hi, nm_e ⟨hi, nm_e ⟨hi, nm_e ⟨hi, nm_e (nm_e ?_)⟩⟩⟩⟩⟩⟩⟩
  rw [nI_clamp (n := nc) (by omega), nI_1, oc_ui mc nc hm]
  exact h
theorem oc_newK {nc : Nat} {kd num kY nk : Nat → Int32} {p0 p1 q0 q1 : Int32} (hK : ∀ n, n < nc → kY n = kd n + 1 ∧ (¬ kd n = 1 → nk n = num n)) (e0 : q0 = p0 + 1) (e1 : ¬ p0 = 1 → q1 = p1) :
    ∀ n, n < nc + 1 → upd kY nc q0 n = upd kd nc p0 n + 1 ∧ (¬ upd kd nc p0 n = 1 → upd nk nc q1 n = upd num nc p1 n) := fun n hn => by
  by_cases z : n = nc
  · rw [z, pk_us, pk_us, pk_us, pk_us]; exact ⟨e0, e1⟩
  · rw [pk_un z, pk_un z, pk_un z, pk_un z]; exact hK n (by omega)
theorem i_vc_variable {k : Nat} {u : SX} {v : SY} (I : i_Rel k u v) (hk : k + 5 ≤ 2562) (v1 : Int32) : wpX_variable (fun r u' => wpY_variable (fun r' v' => r' = r ∧ i_Rel (k + 5) u' v') v v1) u v1 := by
  have J : i_Rel (k + 5) u v := I
  obtain ⟨NC, TC, tc, nc, us, ob, fail, res, fl, fc, val, sp, ret, fu, tm, mk, kd, par, num, ann, rcv, bod, mc, ml, mb, cd, cb, ce, org, co, cr, fn, fe, fp, kY, nk, rt, rn, oe, gn, ge, gd, gs, rfl, rfl, h1, h2, h3, h4, h5, h6, h7, hN, hT, hm, hK, hr⟩ := I
  rcases oc_ix v1 (n := 16) (by omega) with b | ⟨b, hb, rfl⟩
  · exact oc_la0 b (oc_la0 b ⟨rfl, J⟩)
  refine oc_la1 hb (pk_lt nc NC (fun q => ?_) (fun q => ?_))
  · refine oc_xnode (by omega) (oc_la1 hb (pk_lt nc NC (fun _ => ?_) (fun q' => by omega)))
    refine oc_ynode (by omega) (hm nc (Nat.le_refl _)) ⟨rfl, oc_mk ⟨h1, h2, h3, h4, by omega, h6, h7, ?_, hT, fun n hn => hm n (by omega), oc_newK hK (by decide) (fun _ => rfl), hr⟩⟩
    refine oc_Nd_new (by omega) hN (fun n hn => ?_) (fun n hn => Or.inl (pk_un (by omega))) ?_
    · rw [pk_un (by omega), pk_un (by omega), pk_un (by omega), pk_un (by omega), pk_un (by omega)]
      exact ⟨rfl, rfl, rfl, rfl, rfl⟩
    · exact ⟨Or.inl pk_us, Or.inl ⟨pk_us, pk_us, b, hb, pk_us⟩⟩
  · exact oc_la1 hb (pk_lt nc NC (fun q' => by omega) (fun _ => ⟨rfl, J⟩))
theorem i_vc_object {k : Nat} {u : SX} {v : SY} (I : i_Rel k u v) (hk : k + 5 ≤ 2562) (v1 : Int32) : wpX_object (fun r u' => wpY_object (fun r' v' => r' = r ∧ i_Rel (k + 5) u' v') v v1) u v1 := by
  have J : i_Rel (k + 5) u v := I
  obtain ⟨NC, TC, tc, nc, us, ob, fail, res, fl, fc, val, sp, ret, fu, tm, mk, kd, par, num, ann, rcv, bod, mc, ml, mb, cd, cb, ce, org, co, cr, fn, fe, fp, kY, nk, rt, rn, oe, gn, ge, gd, gs, rfl, rfl, h1, h2, h3, h4, h5, h6, h7, hN, hT, hm, hK, hr⟩ := I
  unfold wpX_object
  rcases oc_ix v1 (n := tc) (by omega) with b | ⟨b, hb, rfl⟩
  · refine oc_xT0 b ?_
    unfold wpY_object
    exact oc_yT0 b ⟨rfl, J⟩
  refine oc_xT1 hb (by omega) (pk_lt nc NC (fun q => ?_) (fun q => ?_))
  · refine oc_xnode (by omega) ?_
    unfold wpY_object
    refine oc_yT1 hb (by omega) (pk_lt nc NC (fun _ => ?_) (fun q' => by omega))
    refine oc_ynode (by omega) (hm nc (Nat.le_refl _)) ⟨rfl, oc_mk ⟨h1, h2, h3, h4, by omega, h6, h7, ?_, hT, fun n hn => hm n (by omega), oc_newK hK (by decide) (fun q' => absurd rfl q'), hr⟩⟩
    refine oc_Nd_new (by omega) hN (fun n hn => ?_) (fun n hn => Or.inl (pk_un (by omega))) ?_
    · rw [pk_un (by omega), pk_un (by omega), pk_un (by omega), pk_un (by omega), pk_un (by omega)]
      exact ⟨rfl, rfl, rfl, rfl, rfl⟩
    · exact ⟨Or.inl pk_us, Or.inr (Or.inl ⟨pk_us, pk_us, ⟨b, hb, pk_us⟩, 0, by omega, hm nc (Nat.le_refl _), fun i hi => absurd hi (Nat.not_lt_zero _), fun i j hi => absurd hi (Nat.not_lt_zero _)⟩)⟩
  · unfold wpY_object
    exact oc_yT1 hb (by omega) (pk_lt nc NC (fun q' => by omega) (fun _ => ⟨rfl, J⟩))
theorem oc_xLo1 {NC TC tc nc us ob : Nat} {fail res fl fc val : Int32} {tm mk kd par num ann rcv bod mc ml mb cd cb ce org co cr fn fe fp : Nat → Int32} {A B : Prop} {j : Nat} (hj : j < nc) (ht : nc ≤ 32) (hp : par j = -1) (hB : B) : wpX_isLoose (fun r => (r = 0 → A) ∧ (¬ r = 0 → B)) (nI NC, nI TC, nI tc, nI nc, fail, res, fl, nI us, nI ob, fc, val, tm, mk, kd, par, num, ann, rcv, bod, mc, ml, mb, cd, cb, ce, org, co, cr, fn, fe, fp) (nI j) := by
  unfold wpX_isLoose
  refine oc_xN1 hj ht ⟨vp_in_nI (by omega) (by omega), ?_⟩
  rw [nI_clamp (n := j) (by omega)]
  exact br_t hp (br_f oc_10 hB)
theorem oc_xLo0 {NC TC tc nc us ob : Nat} {fail res fl fc val : Int32} {tm mk kd par num ann rcv bod mc ml mb cd cb ce org co cr fn fe fp : Nat → Int32} {A B : Prop} {t : Int32} (ht : nc ≤ 32) (h : (t < 0 ∨ nI nc ≤ t) ∨ ∃ j, j < nc ∧ t = nI j ∧ ¬ par j = -1) (hA : A) : wpX_isLoose (fun r => (r = 0 → A) ∧ (¬ r = 0 → B)) (nI NC, nI TC, nI tc, nI nc, fail, res, fl, nI us, nI ob, fc, val, tm, mk, kd, par, num, ann, rcv, bod, mc, ml, mb, cd, cb, ce, org, co, cr, fn, fe, fp) t := by
  unfold wpX_isLoose
  rcases h with h | ⟨j, hj, rfl, hp⟩
  · exact oc_xN0 h (br_t rfl hA)
  · refine oc_xN1 hj ht ⟨vp_in_nI (by omega) (by omega), ?_⟩
    rw [nI_clamp (n := j) (by omega)]
    exact br_f hp (br_t rfl hA)
theorem oc_ne {nc p : Nat} {par : Nat → Int32} (hn : nc ≤ 32) (hp : p < 32) {n : Nat} (e : par n = nI p) : ¬ par n = -1 := fun q => by
  rw [e] at q; exact oc_m1 (by omega) q
theorem i_vc_select {k : Nat} {u : SX} {v : SY} (I : i_Rel k u v) (hk : k + 5 ≤ 2562) (v1 : Int32) (v2 : Int32) : wpX_select (fun r u' => wpY_select (fun r' v' => r' = r ∧ i_Rel (k + 5) u' v') v v1 v2) u v1 v2 := by
  have J : i_Rel (k + 5) u v := I
  obtain ⟨NC, TC, tc, nc, us, ob, fail, res, fl, fc, val, sp, ret, fu, tm, mk, kd, par, num, ann, rcv, bod, mc, ml, mb, cd, cb, ce, org, co, cr, fn, fe, fp, kY, nk, rt, rn, oe, gn, ge, gd, gs, rfl, rfl, h1, h2, h3, h4, h5, h6, h7, hN, hT, hm, hK, hr⟩ := I
  unfold wpX_select
  rcases oc_ix v1 (n := nc) (by omega) with a | ⟨a, ha, rfl⟩
  · refine oc_xLo0 (by omega) (Or.inl a) ?_
    unfold wpY_select
    exact oc_yN0 a ⟨rfl, J⟩
  have va : vp_in (nI a) 32 := vp_in_nI (by omega) (by omega)
  have ca : (nI a).toNatClampNeg = a := nI_clamp (by omega)
  by_cases hp : par a = -1
  · refine oc_xLo1 ha (by omega) hp ?_
    rcases oc_ix v2 (n := 16) (by omega) with b | ⟨b, hb, rfl⟩
    · refine oc_xL0 b ?_
      unfold wpY_select
      refine oc_yN1 ha (by omega) ⟨va, ?_⟩
      rw [ca]
      exact br_t hp (oc_la0 b ⟨rfl, J⟩)
    · refine oc_xL1 hb (pk_lt nc NC (fun q => ?_) (fun q => ?_))
      · refine oc_xnode (by omega) ⟨vp_in_nI (by omega) (by omega), nm_e ⟨va, nm_e ?_⟩⟩
        rw [ca, nI_clamp (n := nc) (by omega), oc_uu]
        unfold wpY_select
        refine oc_yN1 ha (by omega) ⟨va, ?_⟩
        rw [ca]
        refine br_t hp (oc_la1 hb (pk_lt nc NC (fun _ => ?_) (fun q' => by omega)))
        refine oc_ynode (by omega) (hm nc (Nat.le_refl _)) ⟨va, nm_e ?_⟩
        try rw [ca]
        refine ⟨rfl, oc_mk ⟨h1, h2, h3, h4, by omega, h6, h7, ?_, hT, fun n hn => hm n (by omega), oc_newK hK (by decide) (fun _ => rfl), hr⟩⟩
        refine oc_Nd_new (by omega) hN (fun n hn => ?_) (fun n hn => ?_) ?_
        · rw [pk_un (by omega), pk_un (by omega), pk_un (by omega), pk_un (by omega), pk_un (by omega)]
          exact ⟨rfl, rfl, rfl, rfl, rfl⟩
        · by_cases y : n = a
          · rw [y, pk_us]; exact Or.inr ⟨hp, rfl⟩
          · rw [pk_un y, pk_un (by omega)]; exact Or.inl rfl
        · refine ⟨Or.inl ?_, Or.inr (Or.inr (Or.inl ⟨pk_us, pk_us, ⟨b, hb, pk_us⟩, a, ha, pk_us, pk_us⟩))⟩
          rw [pk_un (by omega), pk_us]
      · unfold wpY_select
        refine oc_yN1 ha (by omega) ⟨va, ?_⟩
        rw [ca]
        exact br_t hp (oc_la1 hb (pk_lt nc NC (fun q' => by omega) (fun _ => ⟨rfl, J⟩)))
  · refine oc_xLo0 (by omega) (Or.inr ⟨a, ha, rfl, hp⟩) ?_
    unfold wpY_select
    refine oc_yN1 ha (by omega) ⟨va, ?_⟩
    rw [ca]
    exact br_f hp ⟨rfl, J⟩
theorem i_vc_update {k : Nat} {u : SX} {v : SY} (I : i_Rel k u v) (hk : k + 5 ≤ 2562) (v1 : Int32) (v2 : Int32) (v3 : Int32) (v4 : Int32) : wpX_update (fun r u' => wpY_update (fun r' v' => r' = r ∧ i_Rel (k + 5) u' v') v v1 v2 v3 v4) u v1 v2 v3 v4 := by
  have J : i_Rel (k + 5) u v := I
  obtain ⟨NC, TC, tc, nc, us, ob, fail, res, fl, fc, val, sp, ret, fu, tm, mk, kd, par, num, ann, rcv, bod, mc, ml, mb, cd, cb, ce, org, co, cr, fn, fe, fp, kY, nk, rt, rn, oe, gn, ge, gd, gs, rfl, rfl, h1, h2, h3, h4, h5, h6, h7, hN, hT, hm, hK, hr⟩ := I
  unfold wpX_update
  rcases oc_ix v1 (n := nc) (by omega) with a | ⟨a, ha, rfl⟩
  · refine oc_xLo0 (by omega) (Or.inl a) ?_
    unfold wpY_update
    exact oc_yN0 a ⟨rfl, J⟩
  have va : vp_in (nI a) 32 := vp_in_nI (by omega) (by omega)
  have ca : (nI a).toNatClampNeg = a := nI_clamp (by omega)
  rcases oc_ix v4 (n := nc) (by omega) with d | ⟨d, hd, rfl⟩
  · have Yd : ∀ A XA, (-1 : Int32) = A ∧ i_Rel (k + 5) XA (nI NC, nI TC, nI tc, nI nc, fail, sp, ret, nI us, nI ob, fu, res, tm, kY, nk, rcv, bod, ann, par, mc, ml, mb, rt, rn, cb, oe, org, co, cr, gn, ge, gd, gs) → wpY_update (fun r' v' => r' = A ∧ i_Rel (k + 5) XA v') (nI NC, nI TC, nI tc, nI nc, fail, sp, ret, nI us, nI ob, fu, res, tm, kY, nk, rcv, bod, ann, par, mc, ml, mb, rt, rn, cb, oe, org, co, cr, gn, ge, gd, gs) (nI a) v2 v3 v4 := fun A XA w => by
      unfold wpY_update
      exact oc_yN1 ha (by omega) (oc_yN0 d w)
    by_cases hp : par a = -1
    · exact oc_xLo1 ha (by omega) hp (oc_xLo0 (by omega) (Or.inl d) (Yd _ _ ⟨rfl, J⟩))
    · exact oc_xLo0 (by omega) (Or.inr ⟨a, ha, rfl, hp⟩) (Yd _ _ ⟨rfl, J⟩)
  have vd : vp_in (nI d) 32 := vp_in_nI (by omega) (by omega)
  have cd' : (nI d).toNatClampNeg = d := nI_clamp (by omega)
  by_cases hp : par a = -1
  · by_cases hq : par d = -1
    · refine oc_xLo1 ha (by omega) hp (oc_xLo1 hd (by omega) hq (pk_eq a d (fun e => ?_) (fun e => ?_)))
      · unfold wpY_update
        exact oc_yN1 ha (by omega) (oc_yN1 hd (by omega) (pk_eq a d (fun _ => ⟨rfl, J⟩) (fun q => absurd e q)))
      have nad : ¬ nI a = nI d := fun q => e ((nI_eq (by omega) (by omega)).mp q)
      rcases oc_ix v2 (n := 16) (by omega) with b | ⟨b, hb, rfl⟩
      · refine oc_xL0 b ?_
        unfold wpY_update
        refine oc_yN1 ha (by omega) (oc_yN1 hd (by omega) (br_f nad ⟨va, ?_⟩))
        rw [ca]
        refine br_t hp ⟨vd, ?_⟩
        rw [cd']
        refine br_t hq ?_
        exact oc_la0 b ⟨rfl, J⟩
      refine oc_xL1 hb ?_
      rcases oc_ix v3 (n := tc) (by omega) with t | ⟨t, ht, rfl⟩
      · refine oc_xT0 t ?_
        unfold wpY_update
        refine oc_yN1 ha (by omega) (oc_yN1 hd (by omega) (br_f nad ⟨va, ?_⟩))
        rw [ca]
        refine br_t hp ⟨vd, ?_⟩
        rw [cd']
        refine br_t hq ?_
        exact oc_la1 hb (oc_yT0 t ⟨rfl, J⟩)
      refine oc_xT1 ht (by omega) (pk_lt nc NC (fun q => ?_) (fun q => ?_))
      · refine oc_xnode (by omega) ⟨vp_in_nI (by omega) (by omega), nm_e ⟨vp_in_nI (by omega) (by omega), nm_e ⟨va, nm_e ⟨vd, nm_e ?_⟩⟩⟩⟩
        rw [ca, cd', nI_clamp (n := nc) (by omega), oc_uu, oc_uu]
        unfold wpY_update
        refine oc_yN1 ha (by omega) (oc_yN1 hd (by omega) (br_f nad ⟨va, ?_⟩))
        rw [ca]
        refine br_t hp ⟨vd, ?_⟩
        rw [cd']
        refine br_t hq ?_
        refine oc_la1 hb (oc_yT1 ht (by omega) (pk_lt nc NC (fun _ => ?_) (fun q' => by omega)))
        refine oc_ynode (by omega) (hm nc (Nat.le_refl _)) ⟨va, nm_e ⟨vd, nm_e ?_⟩⟩
        try rw [ca]
        try rw [cd']
        refine ⟨rfl, oc_mk ⟨h1, h2, h3, h4, by omega, h6, h7, ?_, hT, fun n hn => hm n (by omega), oc_newK hK (by decide) (fun _ => rfl), hr⟩⟩
        refine oc_Nd_new (by omega) hN (fun n hn => ?_) (fun n hn => ?_) ?_
        · rw [pk_un (by omega), pk_un (by omega), pk_un (by omega), pk_un (by omega), pk_un (by omega)]
          exact ⟨rfl, rfl, rfl, rfl, rfl⟩
        · by_cases y : n = d
          · rw [y, pk_us]; exact Or.inr ⟨hq, rfl⟩
          · rw [pk_un y]
            by_cases y' : n = a
            · rw [y', pk_us]; exact Or.inr ⟨hp, rfl⟩
            · rw [pk_un y', pk_un (by omega)]; exact Or.inl rfl
        · refine ⟨Or.inl ?_, Or.inr (Or.inr (Or.inr ⟨pk_us, ⟨b, hb, pk_us⟩, ⟨t, ht, pk_us⟩, a, d, ha, hd, e, pk_us, pk_us, ?_, pk_us⟩))⟩
          · rw [pk_un (by omega), pk_un (by omega), pk_us]
          · rw [pk_un e, pk_us]
      · unfold wpY_update
        refine oc_yN1 ha (by omega) (oc_yN1 hd (by omega) (br_f nad ⟨va, ?_⟩))
        rw [ca]
        refine br_t hp ⟨vd, ?_⟩
        rw [cd']
        refine br_t hq ?_
        exact oc_la1 hb (oc_yT1 ht (by omega) (pk_lt nc NC (fun q' => by omega) (fun _ => ⟨rfl, J⟩)))
    · have Yd : ∀ A XA, (-1 : Int32) = A ∧ i_Rel (k + 5) XA (nI NC, nI TC, nI tc, nI nc, fail, sp, ret, nI us, nI ob, fu, res, tm, kY, nk, rcv, bod, ann, par, mc, ml, mb, rt, rn, cb, oe, org, co, cr, gn, ge, gd, gs) → wpY_update (fun r' v' => r' = A ∧ i_Rel (k + 5) XA v') (nI NC, nI TC, nI tc, nI nc, fail, sp, ret, nI us, nI ob, fu, res, tm, kY, nk, rcv, bod, ann, par, mc, ml, mb, rt, rn, cb, oe, org, co, cr, gn, ge, gd, gs) (nI a) v2 v3 (nI d) := fun A XA w => by
        unfold wpY_update
        refine oc_yN1 ha (by omega) (oc_yN1 hd (by omega) (br_c (fun _ => w) (fun _ => ⟨va, ?_⟩)))
        rw [ca]
        refine br_t hp ⟨vd, ?_⟩
        rw [cd']
        exact br_f hq w
      exact oc_xLo1 ha (by omega) hp (oc_xLo0 (by omega) (Or.inr ⟨d, hd, rfl, hq⟩) (Yd _ _ ⟨rfl, J⟩))
  · have Yd : ∀ A XA, (-1 : Int32) = A ∧ i_Rel (k + 5) XA (nI NC, nI TC, nI tc, nI nc, fail, sp, ret, nI us, nI ob, fu, res, tm, kY, nk, rcv, bod, ann, par, mc, ml, mb, rt, rn, cb, oe, org, co, cr, gn, ge, gd, gs) → wpY_update (fun r' v' => r' = A ∧ i_Rel (k + 5) XA v') (nI NC, nI TC, nI tc, nI nc, fail, sp, ret, nI us, nI ob, fu, res, tm, kY, nk, rcv, bod, ann, par, mc, ml, mb, rt, rn, cb, oe, org, co, cr, gn, ge, gd, gs) (nI a) v2 v3 (nI d) := fun A XA w => by
      unfold wpY_update
      refine oc_yN1 ha (by omega) (oc_yN1 hd (by omega) (br_c (fun _ => w) (fun _ => ⟨va, ?_⟩)))
      rw [ca]
      exact br_f hp w
    exact oc_xLo0 (by omega) (Or.inr ⟨a, ha, rfl, hp⟩) (Yd _ _ ⟨rfl, J⟩)
theorem oc_xhas {NC TC tc nc us ob : Nat} {fail res fl fc val : Int32} {tm mk kd par num ann rcv bod mc ml mb cd cb ce org co cr fn fe fp : Nat → Int32} {post : Int32 → Prop} {o m l : Nat} (ho : o < 32) (hm : mc o = nI m) (hm8 : m ≤ 8) (h1 : (∃ i, i < m ∧ ml (o * 8 + i) = nI l) → post 1) (h0 : (¬ ∃ i, i < m ∧ ml (o * 8 + i) = nI l) → post 0) : wpX_hasMethod post (nI NC, nI TC, nI tc, nI nc, fail, res, fl, nI us, nI ob, fc, val, tm, mk, kd, par, num, ann, rcv, bod, mc, ml, mb, cd, cb, ce, org, co, cr, fn, fe, fp) (nI o) (nI l) := by
  have key : ∀ d i, i + d = m → (∀ i', i' < i → ¬ ml (o * 8 + i') = nI l) → wX_hasMethod_2 post (nI o) (nI l) (nI NC) (nI TC) (nI tc) (nI nc) fail res fl (nI us) (nI ob) fc val tm mk kd par num ann rcv bod mc ml mb cd cb ce org co cr fn fe fp (d + 1) (nI i) := by
    intro d
    induction d with
    | zero =>
      intro i hi hn
      refine ⟨vp_in_nI ho (by omega), ?_⟩
      rw [nI_clamp (n := o) (by omega), hm]
      exact br_t (nI_le (by omega) (by omega)) (h0 fun ⟨i', a, b⟩ => hn i' (by omega) b)
    | succ d ih =>
      intro i hi hn
      refine ⟨vp_in_nI ho (by omega), ?_⟩
      rw [nI_clamp (n := o) (by omega), hm]
      refine br_f (nI_ge (by omega) (by omega)) ⟨oc_v8 ho (by omega), ?_⟩
      rw [oc_k8 ho (by omega)]
      by_cases z : ml (o * 8 + i) = nI l
      · exact br_t z (h1 ⟨i, by omega, z⟩)
      · refine br_f z (nm_r (nI_1 i) (ih (i + 1) (by omega) fun i' a => ?_))
        by_cases y : i' = i
        · rw [y]; exact z
        · exact hn i' (by omega)
  exact ⟨m + 1, key m 0 (by omega) fun i' a => absurd a (Nat.not_lt_zero _)⟩
theorem oc_yhas {NC TC tc nc us ob : Nat} {fail sp ret fu res : Int32} {tm kY nk rcv bod ann par mc ml mb rt rn cb oe org co cr gn ge gd gs : Nat → Int32} {post : Int32 → Prop} {o m l : Nat} (ho : o < 32) (hm : mc o = nI m) (hm8 : m ≤ 8) (h1 : (∃ i, i < m ∧ ml (o * 8 + i) = nI l) → post 1) (h0 : (¬ ∃ i, i < m ∧ ml (o * 8 + i) = nI l) → post 0) : wpY_hasMethod post (nI NC, nI TC, nI tc, nI nc, fail, sp, ret, nI us, nI ob, fu, res, tm, kY, nk, rcv, bod, ann, par, mc, ml, mb, rt, rn, cb, oe, org, co, cr, gn, ge, gd, gs) (nI o) (nI l) := by
  have key : ∀ d i, i + d = 8 → (∀ i', i' < i → i' < m → ¬ ml (o * 8 + i') = nI l) → wY_hasMethod_2 post (nI o) (nI l) (nI NC) (nI TC) (nI tc) (nI nc) fail sp ret (nI us) (nI ob) fu res tm kY nk rcv bod ann par mc ml mb rt rn cb oe org co cr gn ge gd gs (d + 1) (nI i) := by
    intro d
    induction d with
    | zero =>
      intro i hi hn
      exact br_t (nI_le (a := 8) (by omega) (by omega)) (h0 fun ⟨i', a, b⟩ => hn i' (by omega) a b)
    | succ d ih =>
      intro i hi hn
      refine br_f (nI_ge (b := 8) (by omega) (by omega)) ⟨vp_in_nI ho (by omega), ?_⟩
      rw [nI_clamp (n := o) (by omega), hm]
      refine pk_le m i (fun q => nm_r (nI_1 i) (ih (i + 1) (by omega) fun i' a b => hn i' (by omega) b)) (fun q => ⟨oc_v8 ho (by omega), ?_⟩)
      rw [oc_k8 ho (by omega)]
      by_cases z : ml (o * 8 + i) = nI l
      · exact br_t z (h1 ⟨i, by omega, z⟩)
      · refine br_f z (nm_r (nI_1 i) (ih (i + 1) (by omega) fun i' a b => ?_))
        by_cases y : i' = i
        · rw [y]; exact z
        · exact hn i' (by omega) b
  exact ⟨9, key 8 0 (by omega) fun i' a => absurd a (Nat.not_lt_zero _)⟩
theorem oc_kd {nc tc : Nat} {kd par num ann rcv bod mc ml mb : Nat → Int32} (N : oc_Nd nc tc kd par num ann rcv bod mc ml mb) {n : Nat} (hn : n < nc) : kd n = 0 ∨ kd n = 1 ∨ kd n = 2 ∨ kd n = 3 := by
  obtain ⟨-, ⟨k, -⟩ | ⟨k, -⟩ | ⟨k, -⟩ | ⟨k, -⟩⟩ := N n hn
  · exact Or.inl k
  · exact Or.inr (Or.inl k)
  · exact Or.inr (Or.inr (Or.inl k))
  · exact Or.inr (Or.inr (Or.inr k))
/-- Y's kind is 2 just where X's is 1, and so on -/
theorem oc_ky {nc tc : Nat} {kd par num ann rcv bod mc ml mb kY nk : Nat → Int32} (N : oc_Nd nc tc kd par num ann rcv bod mc ml mb) (hK : ∀ n, n < nc → kY n = kd n + 1 ∧ (¬ kd n = 1 → nk n = num n)) {n : Nat} (hn : n < nc) :
    (kd n = 0 ∧ kY n = 1) ∨ (kd n = 1 ∧ kY n = 2) ∨ (kd n = 2 ∧ kY n = 3) ∨ (kd n = 3 ∧ kY n = 4) := by
  have e := (hK n hn).1
  rcases oc_kd N hn with h | h | h | h
  · exact Or.inl ⟨h, by rw [e, h]; decide⟩
  · exact Or.inr (Or.inl ⟨h, by rw [e, h]; decide⟩)
  · exact Or.inr (Or.inr (Or.inl ⟨h, by rw [e, h]; decide⟩))
  · exact Or.inr (Or.inr (Or.inr ⟨h, by rw [e, h]; decide⟩))
theorem oc_ky1 {nc tc : Nat} {kd par num ann rcv bod mc ml mb kY nk : Nat → Int32} (N : oc_Nd nc tc kd par num ann rcv bod mc ml mb) (hK : ∀ n, n < nc → kY n = kd n + 1 ∧ (¬ kd n = 1 → nk n = num n)) {n : Nat} (hn : n < nc) (h : ¬ kd n = 1) : ¬ kY n = 2 := fun q => by
  rcases oc_ky N hK hn with ⟨a, b⟩ | ⟨a, b⟩ | ⟨a, b⟩ | ⟨a, b⟩
  · rw [b] at q; exact absurd q (by decide)
  · exact h a
  · rw [b] at q; exact absurd q (by decide)
  · rw [b] at q; exact absurd q (by decide)
theorem i_vc_addMethod {k : Nat} {u : SX} {v : SY} (I : i_Rel k u v) (hk : k + 5 ≤ 2562) (v1 : Int32) (v2 : Int32) (v3 : Int32) : wpX_addMethod (fun r u' => wpY_addMethod (fun r' v' => r' = r ∧ i_Rel (k + 5) u' v') v v1 v2 v3) u v1 v2 v3 := by
  have J : i_Rel (k + 5) u v := I
  obtain ⟨NC, TC, tc, nc, us, ob, fail, res, fl, fc, val, sp, ret, fu, tm, mk, kd, par, num, ann, rcv, bod, mc, ml, mb, cd, cb, ce, org, co, cr, fn, fe, fp, kY, nk, rt, rn, oe, gn, ge, gd, gs, rfl, rfl, h1, h2, h3, h4, h5, h6, h7, hN, hT, hm, hK, hr⟩ := I
  unfold wpX_addMethod
  rcases oc_ix v1 (n := nc) (by omega) with a | ⟨a, ha, rfl⟩
  · refine oc_xN0 a ?_
    unfold wpY_addMethod
    exact oc_yN0 a ⟨rfl, J⟩
  have va : vp_in (nI a) 32 := vp_in_nI (by omega) (by omega)
  have ca : (nI a).toNatClampNeg = a := nI_clamp (by omega)
  refine oc_xN1 ha (by omega) ⟨va, ?_⟩
  rw [ca]
  by_cases hk1 : kd a = 1
  · have hk2 : kY a = 2 := by rw [(hK a ha).1, hk1]; decide
    refine br_t hk1 ?_
    rcases oc_ix v2 (n := 16) (by omega) with b | ⟨b, hb, rfl⟩
    · refine oc_xL0 b ?_
      unfold wpY_addMethod
      refine oc_yN1 ha (by omega) ⟨va, ?_⟩
      rw [ca]
      exact br_t hk2 (oc_lb0 b ⟨rfl, J⟩)
    refine oc_xL1 hb ?_
    rcases oc_ix v3 (n := nc) (by omega) with d | ⟨d, hd, rfl⟩
    · refine oc_xLo0 (by omega) (Or.inl d) ?_
      unfold wpY_addMethod
      refine oc_yN1 ha (by omega) ⟨va, ?_⟩
      rw [ca]
      exact br_t hk2 (oc_lb1 hb (oc_yN0 d ⟨rfl, J⟩))
    have vd : vp_in (nI d) 32 := vp_in_nI (by omega) (by omega)
    have cd' : (nI d).toNatClampNeg = d := nI_clamp (by omega)
    by_cases hp : par d = -1
    · refine oc_xLo1 hd (by omega) hp (pk_lt d a (fun e => ?_) (fun e => ?_))
      · obtain ⟨-, ⟨k1, -⟩ | ⟨k1, k2, k3, m, w4, w5, w6, w7⟩ | ⟨k1, -⟩ | ⟨k1, -⟩⟩ := hN a ha
        · rw [hk1] at k1; exact absurd k1 (by decide)
        · refine oc_xhas (by omega) w5 w4 (fun q => br_f oc_10 ?_) (fun q => br_t rfl ⟨va, ?_⟩)
          · unfold wpY_addMethod
            refine oc_yN1 ha (by omega) ⟨va, ?_⟩
            rw [ca]
            refine br_t hk2 (oc_lb1 hb (oc_yN1 hd (by omega) (br_f (nI_ge e (by omega)) ⟨vd, ?_⟩)))
            rw [cd']
            exact br_t hp (oc_yhas (by omega) w5 w4 (fun _ => br_f oc_10 ⟨rfl, J⟩) (fun q' => absurd q q'))
          · rw [w5]
            refine pk_lt m 8 (fun m8 => ⟨va, nm_e ⟨?_, nm_e ⟨?_, nm_e ⟨va, va, nm_e ⟨vd, nm_e ?_⟩⟩⟩⟩⟩) (fun m8 => ?_)
            · exact oc_v8 (by omega) m8
            · exact oc_v8 (by omega) m8
            · rw [oc_k8 (by omega) m8, cd', nI_1]
              unfold wpY_addMethod
              refine oc_yN1 ha (by omega) ⟨va, ?_⟩
              rw [ca]
              refine br_t hk2 (oc_lb1 hb (oc_yN1 hd (by omega) (br_f (nI_ge e (by omega)) ⟨vd, ?_⟩)))
              rw [cd']
              refine br_t hp (oc_yhas (by omega) w5 w4 (fun q' => absurd q' q) (fun _ => br_t rfl ⟨va, ?_⟩))
              rw [w5]
              refine pk_lt m 8 (fun _ => ⟨va, nm_e ⟨?_, nm_e ⟨?_, nm_e ⟨va, va, nm_e ⟨vd, nm_e ?_⟩⟩⟩⟩⟩) (fun m8' => by omega)
              · exact oc_v8 (by omega) m8
              · exact oc_v8 (by omega) m8
              · rw [oc_k8 (by omega) m8, nI_1]
                refine ⟨rfl, oc_mk ⟨h1, h2, h3, h4, h5, h6, h7, oc_Nd_add (by omega) hN ha hk1 e hp w5 m8 hb, hT, fun n hn => ?_, hK, hr⟩⟩
                rw [pk_un (by omega)]
                exact hm n hn
            · unfold wpY_addMethod
              refine oc_yN1 ha (by omega) ⟨va, ?_⟩
              rw [ca]
              refine br_t hk2 (oc_lb1 hb (oc_yN1 hd (by omega) (br_f (nI_ge e (by omega)) ⟨vd, ?_⟩)))
              rw [cd']
              refine br_t hp (oc_yhas (by omega) w5 w4 (fun q' => absurd q' q) (fun _ => br_t rfl ⟨va, ?_⟩))
              rw [w5]
              exact pk_lt m 8 (fun m8' => by omega) (fun _ => ⟨rfl, J⟩)
        · rw [hk1] at k1; exact absurd k1 (by decide)
        · rw [hk1] at k1; exact absurd k1 (by decide)
      · unfold wpY_addMethod
        refine oc_yN1 ha (by omega) ⟨va, ?_⟩
        rw [ca]
        exact br_t hk2 (oc_lb1 hb (oc_yN1 hd (by omega) (br_t (nI_le e (by omega)) ⟨rfl, J⟩)))
    · refine oc_xLo0 (by omega) (Or.inr ⟨d, hd, rfl, hp⟩) ?_
      unfold wpY_addMethod
      refine oc_yN1 ha (by omega) ⟨va, ?_⟩
      rw [ca]
      refine br_t hk2 (oc_lb1 hb (oc_yN1 hd (by omega) (br_c (fun _ => ⟨rfl, J⟩) (fun _ => ⟨vd, ?_⟩))))
      rw [cd']
      exact br_f hp ⟨rfl, J⟩
  · refine br_f hk1 ?_
    unfold wpY_addMethod
    refine oc_yN1 ha (by omega) ⟨va, ?_⟩
    rw [ca]
    exact br_f (oc_ky1 hN hK ha hk1) ⟨rfl, J⟩
theorem i_vc_nodeParent {k : Nat} {u : SX} {v : SY} (I : i_Rel k u v) (hk : k + 5 ≤ 2562) (v1 : Int32) : wpX_nodeParent (fun r => wpY_nodeParent (fun r' => r' = r ∧ i_Rel (k + 5) u v) v v1) u v1 := by
  have J : i_Rel (k + 5) u v := I
  obtain ⟨NC, TC, tc, nc, us, ob, fail, res, fl, fc, val, sp, ret, fu, tm, mk, kd, par, num, ann, rcv, bod, mc, ml, mb, cd, cb, ce, org, co, cr, fn, fe, fp, kY, nk, rt, rn, oe, gn, ge, gd, gs, rfl, rfl, h1, h2, h3, h4, h5, h6, h7, hN, hT, hm, hK, hr⟩ := I
  unfold wpX_nodeParent
  rcases oc_ix v1 (n := nc) (by omega) with a | ⟨a, ha, rfl⟩
  · refine oc_xN0 a ?_
    unfold wpY_nodeParent
    exact oc_yN0 a ⟨rfl, J⟩
  · refine oc_xN1 ha (by omega) ⟨vp_in_nI (by omega) (by omega), ?_⟩
    unfold wpY_nodeParent
    exact oc_yN1 ha (by omega) ⟨vp_in_nI (by omega) (by omega), rfl, J⟩
theorem i_vc_errorNode {k : Nat} {u : SX} {v : SY} (I : i_Rel k u v) (hk : k + 5 ≤ 2562) : wpX_errorNode (fun r => wpY_errorNode (fun r' => r' = r ∧ i_Rel (k + 5) u v) v) u := by
  have J : i_Rel (k + 5) u v := I
  obtain ⟨NC, TC, tc, nc, us, ob, fail, res, fl, fc, val, sp, ret, fu, tm, mk, kd, par, num, ann, rcv, bod, mc, ml, mb, cd, cb, ce, org, co, cr, fn, fe, fp, kY, nk, rt, rn, oe, gn, ge, gd, gs, rfl, rfl, hh⟩ := I
  exact ⟨rfl, J⟩
theorem i_vc_fuelUsed {k : Nat} {u : SX} {v : SY} (I : i_Rel k u v) (hk : k + 5 ≤ 2562) : wpX_fuelUsed (fun r => wpY_fuelUsed (fun r' => r' = r ∧ i_Rel (k + 5) u v) v) u := by
  have J : i_Rel (k + 5) u v := I
  obtain ⟨NC, TC, tc, nc, us, ob, fail, res, fl, fc, val, sp, ret, fu, tm, mk, kd, par, num, ann, rcv, bod, mc, ml, mb, cd, cb, ce, org, co, cr, fn, fe, fp, kY, nk, rt, rn, oe, gn, ge, gd, gs, rfl, rfl, hh⟩ := I
  exact ⟨rfl, J⟩
theorem i_vc_objectsCreated {k : Nat} {u : SX} {v : SY} (I : i_Rel k u v) (hk : k + 5 ≤ 2562) : wpX_objectsCreated (fun r => wpY_objectsCreated (fun r' => r' = r ∧ i_Rel (k + 5) u v) v) u := by
  have J : i_Rel (k + 5) u v := I
  obtain ⟨NC, TC, tc, nc, us, ob, fail, res, fl, fc, val, sp, ret, fu, tm, mk, kd, par, num, ann, rcv, bod, mc, ml, mb, cd, cb, ce, org, co, cr, fn, fe, fp, kY, nk, rt, rn, oe, gn, ge, gd, gs, rfl, rfl, hh⟩ := I
  exact ⟨rfl, J⟩
theorem i_vc_resultType {k : Nat} {u : SX} {v : SY} (I : i_Rel k u v) (hk : k + 5 ≤ 2562) : wpX_resultType (fun r => wpY_resultType (fun r' => r' = r ∧ i_Rel (k + 5) u v) v) u := by
  have J : i_Rel (k + 5) u v := I
  obtain ⟨NC, TC, tc, nc, us, ob, fail, res, fl, fc, val, sp, ret, fu, tm, mk, kd, par, num, ann, rcv, bod, mc, ml, mb, cd, cb, ce, org, co, cr, fn, fe, fp, kY, nk, rt, rn, oe, gn, ge, gd, gs, rfl, rfl, h1, h2, h3, h4, h5, h6, h7, hN, hT, hm, hK, hr⟩ := I
  rcases hr with rfl | ⟨o, ho, rfl⟩
  · exact br_t rfl (br_f (by decide) ⟨rfl, J⟩)
  · have vo : vp_in (nI o) 32 := vp_in_nI (by omega) (by omega)
    exact br_f (oc_m1 (by omega)) ⟨vo, br_t (nI_pos' (by omega)) ⟨vo, rfl, J⟩⟩
theorem i_vc_resultBody {k : Nat} {u : SX} {v : SY} (I : i_Rel k u v) (hk : k + 5 ≤ 2562) (v1 : Int32) : wpX_resultBody (fun r => wpY_resultBody (fun r' => r' = r ∧ i_Rel (k + 5) u v) v v1) u v1 := by
  have J : i_Rel (k + 5) u v := I
  obtain ⟨NC, TC, tc, nc, us, ob, fail, res, fl, fc, val, sp, ret, fu, tm, mk, kd, par, num, ann, rcv, bod, mc, ml, mb, cd, cb, ce, org, co, cr, fn, fe, fp, kY, nk, rt, rn, oe, gn, ge, gd, gs, rfl, rfl, h1, h2, h3, h4, h5, h6, h7, hN, hT, hm, hK, hr⟩ := I
  rcases hr with rfl | ⟨o, ho, rfl⟩
  · exact br_t rfl (br_t (by decide) ⟨rfl, J⟩)
  · refine br_f (oc_m1 (by omega)) ?_
    rcases oc_ix v1 (n := 16) (by omega) with b | ⟨b, hb, rfl⟩
    · exact oc_xL0 b (br_f (nI_pos (by omega)) (oc_lb0 b ⟨rfl, J⟩))
    · have vo := oc_v16 (a := o) (b := b) (by omega) hb
      exact oc_xL1 hb ⟨vo, br_f (nI_pos (by omega)) (oc_lb1 hb ⟨vo, rfl, J⟩)⟩
