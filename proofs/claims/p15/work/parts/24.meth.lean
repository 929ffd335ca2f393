/-! the invariant of the class, and each method that keeps it -/
def oc_I (NC TC tc nc us ob : Nat) (res : Int32) (tm mk kd par num ann rcv bod mc ml mb : Nat → Int32) : Prop :=
  NC ≤ 32 ∧ TC ≤ 32 ∧ 2 ≤ tc ∧ tc ≤ TC ∧ nc ≤ NC ∧ us ≤ 128 ∧ ob ≤ 32 ∧ oc_Nd nc tc kd par num ann rcv bod mc ml mb ∧ oc_Ty tc tm mk ∧ (∀ n, nc ≤ n → mc n = 0) ∧
  oc_Kd nc kd par rcv bod mc mb ∧ oc_Ld nc kd mc ml ∧ (res = -1 ∨ ∃ o, o < ob ∧ res = nI o)
def oc_J (u : St2) : Prop := ∃ (NC TC tc nc us ob : Nat) (fail res fl fc val : Int32) (tm mk kd par num ann rcv bod mc ml mb cd cb ce org co cr fn fe fp : Nat → Int32), u = (nI NC, nI TC, nI tc, nI nc, fail, res, fl, nI us, nI ob, fc, val, tm, mk, kd, par, num, ann, rcv, bod, mc, ml, mb, cd, cb, ce, org, co, cr, fn, fe, fp) ∧ oc_I NC TC tc nc us ob res tm mk kd par num ann rcv bod mc ml mb
theorem oc_jm {NC TC tc nc us ob : Nat} {fail res fl fc val : Int32} {tm mk kd par num ann rcv bod mc ml mb cd cb ce org co cr fn fe fp : Nat → Int32} (h : oc_I NC TC tc nc us ob res tm mk kd par num ann rcv bod mc ml mb) : oc_J (nI NC, nI TC, nI tc, nI nc, fail, res, fl, nI us, nI ob, fc, val, tm, mk, kd, par, num, ann, rcv, bod, mc, ml, mb, cd, cb, ce, org, co, cr, fn, fe, fp) := ⟨NC, TC, tc, nc, us, ob, fail, res, fl, fc, val, tm, mk, kd, par, num, ann, rcv, bod, mc, ml, mb, cd, cb, ce, org, co, cr, fn, fe, fp, rfl, h⟩
theorem oc_np {nc tc : Nat} {kd par num ann rcv bod mc ml mb : Nat → Int32} (hc : nc ≤ 32) (N : oc_Nd nc tc kd par num ann rcv bod mc ml mb) : ∀ n, n < nc → ¬ par n = nI nc := fun n hn q => by
  rcases oc_Nd_Pa N n hn with h | ⟨p, h1, h2, h3⟩
  · rw [q] at h; exact oc_m1 (by omega) h
  · rw [q, nI_eq (by omega) (by omega)] at h3; omega
theorem oc_jt {u : St2} {post : Int32 → Prop} (I : oc_J u) (h : ∀ r, post r) (v1 v2 : Int32) : wpX_typeMember post u v1 v2 := by
  obtain ⟨NC, TC, tc, nc, us, ob, fail, res, fl, fc, val, tm, mk, kd, par, num, ann, rcv, bod, mc, ml, mb, cd, cb, ce, org, co, cr, fn, fe, fp, rfl, h1, h2, h3, h4, h5, -⟩ := I
  unfold wpX_typeMember
  rcases oc_ix v1 (n := tc) (by omega) with a | ⟨a, ha, rfl⟩
  · exact oc_xT0 a (h _)
  refine oc_xT1 ha (by omega) ?_
  rcases oc_ix v2 (n := 16) (by omega) with b | ⟨b, hb, rfl⟩
  · exact oc_xL0 b (h _)
  · exact oc_xL1 hb ⟨oc_v16 (by omega) hb, h _⟩
theorem oc_jn {u : St2} {post : Int32 → Prop} (I : oc_J u) (h : ∀ r, post r) (v1 : Int32) : wpX_nodeParent post u v1 := by
  obtain ⟨NC, TC, tc, nc, us, ob, fail, res, fl, fc, val, tm, mk, kd, par, num, ann, rcv, bod, mc, ml, mb, cd, cb, ce, org, co, cr, fn, fe, fp, rfl, h1, h2, h3, h4, h5, -⟩ := I
  unfold wpX_nodeParent
  rcases oc_ix v1 (n := nc) (by omega) with a | ⟨a, ha, rfl⟩
  · exact oc_xN0 a (h _)
  · exact oc_xN1 ha (by omega) ⟨vp_in_nI (by omega) (by omega), h _⟩
theorem oc_jb {u : St2} {post : Int32 → Prop} (I : oc_J u) (h : ∀ r, post r) (v1 v2 : Int32) : wpX_isSubtype post u v1 v2 := by
  obtain ⟨NC, TC, tc, nc, us, ob, fail, res, fl, fc, val, tm, mk, kd, par, num, ann, rcv, bod, mc, ml, mb, cd, cb, ce, org, co, cr, fn, fe, fp, rfl, h1, h2, h3, h4, h5, -⟩ := I
  unfold wpX_isSubtype
  rcases oc_ix v1 (n := tc) (by omega) with a | ⟨a, ha, rfl⟩
  · exact oc_xT0 a (h _)
  refine oc_xT1 ha (by omega) ?_
  rcases oc_ix v2 (n := tc) (by omega) with b | ⟨b, hb, rfl⟩
  · exact oc_xT0 b (h _)
  · exact oc_xT1 hb (by omega) (oc_xfits (by omega) (by omega) (fun s => br_f oc_10 (h _)) (fun s => br_t rfl (h _)))
theorem oc_jv {u : St2} {post : Int32 → St2 → Prop} (I : oc_J u) (h : ∀ r u', oc_J u' → post r u') (v1 : Int32) : wpX_variable post u v1 := by
  have J := I
  obtain ⟨NC, TC, tc, nc, us, ob, fail, res, fl, fc, val, tm, mk, kd, par, num, ann, rcv, bod, mc, ml, mb, cd, cb, ce, org, co, cr, fn, fe, fp, rfl, h1, h2, h3, h4, h5, h6, h7, hN, hT, hm, hK, hL, hr⟩ := I
  rcases oc_ix v1 (n := 16) (by omega) with b | ⟨b, hb, rfl⟩
  · exact oc_la0 b (h _ _ J)
  refine oc_la1 hb (pk_lt nc NC (fun q => ?_) (fun q => h _ _ J))
  refine oc_xnode (by omega) (h _ _ (oc_jm ⟨h1, h2, h3, h4, by omega, h6, h7, ?_, hT, fun n hn => hm n (by omega), ?_, ?_, hr⟩))
  · refine oc_Nd_new (by omega) hN (fun n hn => ?_) (fun n hn => Or.inl (pk_un (by omega))) ?_
    · rw [pk_un (by omega), pk_un (by omega), pk_un (by omega), pk_un (by omega), pk_un (by omega)]
      exact ⟨rfl, rfl, rfl, rfl, rfl⟩
    · exact ⟨Or.inl pk_us, Or.inl ⟨pk_us, pk_us, b, hb, pk_us⟩⟩
  · exact oc_Kd_new (by omega) hK (fun n hn => ⟨pk_un (by omega), pk_un (by omega), pk_un (by omega)⟩) pk_us (fun n hn => Or.inl (pk_un (by omega))) (oc_np (by omega) hN)
  · exact oc_Ld_new hL (fun n hn => pk_un (by omega)) (hm nc (Nat.le_refl _))
theorem oc_jo {u : St2} {post : Int32 → St2 → Prop} (I : oc_J u) (h : ∀ r u', oc_J u' → post r u') (v1 : Int32) : wpX_object post u v1 := by
  have J := I
  obtain ⟨NC, TC, tc, nc, us, ob, fail, res, fl, fc, val, tm, mk, kd, par, num, ann, rcv, bod, mc, ml, mb, cd, cb, ce, org, co, cr, fn, fe, fp, rfl, h1, h2, h3, h4, h5, h6, h7, hN, hT, hm, hK, hL, hr⟩ := I
  unfold wpX_object
  rcases oc_ix v1 (n := tc) (by omega) with b | ⟨b, hb, rfl⟩
  · exact oc_xT0 b (h _ _ J)
  refine oc_xT1 hb (by omega) (pk_lt nc NC (fun q => ?_) (fun q => h _ _ J))
  refine oc_xnode (by omega) (h _ _ (oc_jm ⟨h1, h2, h3, h4, by omega, h6, h7, ?_, hT, fun n hn => hm n (by omega), ?_, ?_, hr⟩))
  · refine oc_Nd_new (by omega) hN (fun n hn => ?_) (fun n hn => Or.inl (pk_un (by omega))) ?_
    · rw [pk_un (by omega), pk_un (by omega), pk_un (by omega), pk_un (by omega), pk_un (by omega)]
      exact ⟨rfl, rfl, rfl, rfl, rfl⟩
    · exact ⟨Or.inl pk_us, Or.inr (Or.inl ⟨pk_us, pk_us, ⟨b, hb, pk_us⟩, 0, by omega, hm nc (Nat.le_refl _), fun i hi => absurd hi (Nat.not_lt_zero _), fun i j hi => absurd hi (Nat.not_lt_zero _)⟩)⟩
  · exact oc_Kd_new (by omega) hK (fun n hn => ⟨pk_un (by omega), pk_un (by omega), pk_un (by omega)⟩) pk_us (fun n hn => Or.inl (pk_un (by omega))) (oc_np (by omega) hN)
  · exact oc_Ld_new hL (fun n hn => pk_un (by omega)) (hm nc (Nat.le_refl _))
theorem oc_lo {nc : Nat} (par : Nat → Int32) (t : Int32) (hn : nc ≤ 32) : ((t < 0 ∨ nI nc ≤ t) ∨ ∃ j, j < nc ∧ t = nI j ∧ ¬ par j = -1) ∨ ∃ j, j < nc ∧ t = nI j ∧ par j = -1 := by
  rcases oc_ix t (n := nc) (by omega) with a | ⟨a, ha, rfl⟩
  · exact Or.inl (Or.inl a)
  · by_cases hp : par a = -1
    · exact Or.inr ⟨a, ha, rfl, hp⟩
    · exact Or.inl (Or.inr ⟨a, ha, rfl, hp⟩)
theorem oc_js {u : St2} {post : Int32 → St2 → Prop} (I : oc_J u) (h : ∀ r u', oc_J u' → post r u') (v1 v2 : Int32) : wpX_select post u v1 v2 := by
  have J := I
  obtain ⟨NC, TC, tc, nc, us, ob, fail, res, fl, fc, val, tm, mk, kd, par, num, ann, rcv, bod, mc, ml, mb, cd, cb, ce, org, co, cr, fn, fe, fp, rfl, h1, h2, h3, h4, h5, h6, h7, hN, hT, hm, hK, hL, hr⟩ := I
  unfold wpX_select
  rcases oc_lo par v1 (show nc ≤ 32 by omega) with a | ⟨a, ha, rfl, hp⟩
  · exact oc_xLo0 (by omega) a (h _ _ J)
  have va : vp_in (nI a) 32 := vp_in_nI (by omega) (by omega)
  have ca : (nI a).toNatClampNeg = a := nI_clamp (by omega)
  refine oc_xLo1 ha (by omega) hp ?_
  rcases oc_ix v2 (n := 16) (by omega) with b | ⟨b, hb, rfl⟩
  · exact oc_xL0 b (h _ _ J)
  refine oc_xL1 hb (pk_lt nc NC (fun q => ?_) (fun q => h _ _ J))
  refine oc_xnode (by omega) ⟨vp_in_nI (by omega) (by omega), nm_e ⟨va, nm_e ?_⟩⟩
  rw [ca, nI_clamp (n := nc) (by omega), oc_uu]
  refine h _ _ (oc_jm ⟨h1, h2, h3, h4, by omega, h6, h7, ?_, hT, fun n hn => hm n (by omega), ?_, ?_, hr⟩)
  · refine oc_Nd_new (by omega) hN (fun n hn => ?_) (fun n hn => ?_) ?_
    · rw [pk_un (by omega), pk_un (by omega), pk_un (by omega), pk_un (by omega), pk_un (by omega)]
      exact ⟨rfl, rfl, rfl, rfl, rfl⟩
    · by_cases y : n = a
      · rw [y, pk_us]; exact Or.inr ⟨hp, rfl⟩
      · rw [pk_un y, pk_un (by omega)]; exact Or.inl rfl
    · refine ⟨Or.inl ?_, Or.inr (Or.inr (Or.inl ⟨pk_us, pk_us, ⟨b, hb, pk_us⟩, a, ha, pk_us, pk_us⟩))⟩
      rw [pk_un (by omega), pk_us]
  · refine oc_Kd_new (by omega) hK (fun n hn => ⟨pk_un (by omega), pk_un (by omega), pk_un (by omega)⟩) (by rw [pk_un (by omega), pk_us]) (fun n hn => ?_) (oc_np (by omega) hN)
    by_cases y : n = a
    · rw [y, pk_us]; exact Or.inr ⟨rfl, Or.inl ⟨pk_us, pk_us⟩⟩
    · rw [pk_un y, pk_un (by omega)]; exact Or.inl rfl
  · exact oc_Ld_new hL (fun n hn => pk_un (by omega)) (hm nc (Nat.le_refl _))
theorem oc_ju {u : St2} {post : Int32 → St2 → Prop} (I : oc_J u) (h : ∀ r u', oc_J u' → post r u') (v1 v2 v3 v4 : Int32) : wpX_update post u v1 v2 v3 v4 := by
  have J := I
  obtain ⟨NC, TC, tc, nc, us, ob, fail, res, fl, fc, val, tm, mk, kd, par, num, ann, rcv, bod, mc, ml, mb, cd, cb, ce, org, co, cr, fn, fe, fp, rfl, h1, h2, h3, h4, h5, h6, h7, hN, hT, hm, hK, hL, hr⟩ := I
  unfold wpX_update
  rcases oc_lo par v1 (show nc ≤ 32 by omega) with a | ⟨a, ha, rfl, hp⟩
  · exact oc_xLo0 (by omega) a (h _ _ J)
  have va : vp_in (nI a) 32 := vp_in_nI (by omega) (by omega)
  have ca : (nI a).toNatClampNeg = a := nI_clamp (by omega)
  refine oc_xLo1 ha (by omega) hp ?_
  rcases oc_lo par v4 (show nc ≤ 32 by omega) with d | ⟨d, hd, rfl, hq⟩
  · exact oc_xLo0 (by omega) d (h _ _ J)
  have vd : vp_in (nI d) 32 := vp_in_nI (by omega) (by omega)
  have cd' : (nI d).toNatClampNeg = d := nI_clamp (by omega)
  refine oc_xLo1 hd (by omega) hq (pk_eq a d (fun e => h _ _ J) (fun e => ?_))
  rcases oc_ix v2 (n := 16) (by omega) with b | ⟨b, hb, rfl⟩
  · exact oc_xL0 b (h _ _ J)
  refine oc_xL1 hb ?_
  rcases oc_ix v3 (n := tc) (by omega) with t | ⟨t, ht, rfl⟩
  · exact oc_xT0 t (h _ _ J)
  refine oc_xT1 ht (by omega) (pk_lt nc NC (fun q => ?_) (fun q => h _ _ J))
  refine oc_xnode (by omega) ⟨vp_in_nI (by omega) (by omega), nm_e ⟨vp_in_nI (by omega) (by omega), nm_e ⟨va, nm_e ⟨vd, nm_e ?_⟩⟩⟩⟩
  rw [ca, cd', nI_clamp (n := nc) (by omega), oc_uu, oc_uu]
  refine h _ _ (oc_jm ⟨h1, h2, h3, h4, by omega, h6, h7, ?_, hT, fun n hn => hm n (by omega), ?_, ?_, hr⟩)
  · refine oc_Nd_new (by omega) hN (fun n hn => ?_) (fun n hn => ?_) ?_
    · rw [pk_un (by omega), pk_un (by omega), pk_un (by omega), pk_un (by omega), pk_un (by omega)]
      exact ⟨rfl, rfl, rfl, rfl, rfl⟩
    · by_cases y : n = d
      · rw [y, pk_us]; exact Or.inr ⟨hq, rfl⟩
      · rw [pk_un y]
        by_cases y' : n = a
        · rw [y', pk_us]; exact Or.inr ⟨hp, rfl⟩
        · rw [pk_un y', pk_un (by omega)]; exact Or.inl rfl
    · refine ⟨Or.inl ?_, Or.inr (Or.inr (Or.inr ⟨pk_us, ⟨b, hb, pk_us⟩, ⟨t, ht, pk_us⟩, a, d, ha, hd, e, pk_us, pk_us, ?_, pk_us⟩))⟩
      · rw [pk_un (by omega), pk_un (by omega), pk_us]
      · rw [pk_un e, pk_us]
  · refine oc_Kd_new (by omega) hK (fun n hn => ⟨pk_un (by omega), pk_un (by omega), pk_un (by omega)⟩) (by rw [pk_un (by omega), pk_un (by omega), pk_us]) (fun n hn => ?_) (oc_np (by omega) hN)
    by_cases y : n = d
    · rw [y, pk_us]; exact Or.inr ⟨rfl, Or.inr ⟨pk_us, Or.inr pk_us⟩⟩
    · rw [pk_un y]
      by_cases y' : n = a
      · rw [y', pk_us]; exact Or.inr ⟨rfl, Or.inr ⟨pk_us, Or.inl pk_us⟩⟩
      · rw [pk_un y', pk_un (by omega)]; exact Or.inl rfl
  · exact oc_Ld_new hL (fun n hn => pk_un (by omega)) (hm nc (Nat.le_refl _))
theorem oc_ja {u : St2} {post : Int32 → St2 → Prop} (I : oc_J u) (h : ∀ r u', oc_J u' → post r u') (v1 v2 v3 : Int32) : wpX_addMethod post u v1 v2 v3 := by
  have J := I
  obtain ⟨NC, TC, tc, nc, us, ob, fail, res, fl, fc, val, tm, mk, kd, par, num, ann, rcv, bod, mc, ml, mb, cd, cb, ce, org, co, cr, fn, fe, fp, rfl, h1, h2, h3, h4, h5, h6, h7, hN, hT, hm, hK, hL, hr⟩ := I
  unfold wpX_addMethod
  rcases oc_ix v1 (n := nc) (by omega) with a | ⟨a, ha, rfl⟩
  · exact oc_xN0 a (h _ _ J)
  have va : vp_in (nI a) 32 := vp_in_nI (by omega) (by omega)
  have ca : (nI a).toNatClampNeg = a := nI_clamp (by omega)
  refine oc_xN1 ha (by omega) ⟨va, ?_⟩
  rw [ca]
  refine br_c (fun hk1 => ?_) (fun _ => h _ _ J)
  rcases oc_ix v2 (n := 16) (by omega) with b | ⟨b, hb, rfl⟩
  · exact oc_xL0 b (h _ _ J)
  refine oc_xL1 hb ?_
  rcases oc_lo par v3 (show nc ≤ 32 by omega) with d | ⟨d, hd, rfl, hp⟩
  · exact oc_xLo0 (by omega) d (h _ _ J)
  have vd : vp_in (nI d) 32 := vp_in_nI (by omega) (by omega)
  have cd' : (nI d).toNatClampNeg = d := nI_clamp (by omega)
  refine oc_xLo1 hd (by omega) hp (pk_lt d a (fun e => ?_) (fun e => h _ _ J))
  obtain ⟨-, ⟨k1, -⟩ | ⟨k1, k2, k3, m, w4, w5, w6, w7⟩ | ⟨k1, -⟩ | ⟨k1, -⟩⟩ := hN a ha
  · rw [hk1] at k1; exact absurd k1 (by decide)
  · refine oc_xhas (by omega) w5 w4 (fun q => br_f oc_10 (h _ _ J)) (fun q => br_t rfl ⟨va, ?_⟩)
    rw [w5]
    refine pk_lt m 8 (fun m8 => ⟨va, nm_e ⟨?_, nm_e ⟨?_, nm_e ⟨va, va, nm_e ⟨vd, nm_e ?_⟩⟩⟩⟩⟩) (fun m8 => h _ _ J)
    · exact oc_v8 (by omega) m8
    · exact oc_v8 (by omega) m8
    · rw [oc_k8 (by omega) m8, cd', nI_1]
      refine h _ _ (oc_jm ⟨h1, h2, h3, h4, h5, h6, h7, oc_Nd_add (by omega) hN ha hk1 e hp w5 m8 hb, hT, fun n hn => ?_, oc_Kd_add (by omega) hK (oc_m8 hN) ha hk1 e w5 m8, oc_Ld_add (by omega) hL (oc_m8 hN) ha w5 m8 q, hr⟩)
      rw [pk_un (by omega)]
      exact hm n hn
  · rw [hk1] at k1; exact absurd k1 (by decide)
  · rw [hk1] at k1; exact absurd k1 (by decide)
theorem oc_je {u : St2} {post : Int32 → St2 → Prop} (I : oc_J u) (h : ∀ r u', oc_J u' → post r u') (v1 v2 v3 : Int32) : wpX_extendType post u v1 v2 v3 := by
  have J := I
  obtain ⟨NC, TC, tc, nc, us, ob, fail, res, fl, fc, val, tm, mk, kd, par, num, ann, rcv, bod, mc, ml, mb, cd, cb, ce, org, co, cr, fn, fe, fp, rfl, h1, h2, h3, h4, h5, h6, h7, hN, hT, hm, hK, hL, hr⟩ := I
  unfold wpX_extendType
  rcases oc_ix v1 (n := tc) (by omega) with a | ⟨a, ha, rfl⟩
  · exact oc_xT0 a (h _ _ J)
  refine oc_xT1 ha (by omega) (pk_eq a 0 (fun e => h _ _ J) (fun e => ?_))
  rcases oc_ix v2 (n := 16) (by omega) with b | ⟨b, hb, rfl⟩
  · exact oc_xL0 b (h _ _ J)
  refine oc_xL1 hb ?_
  rcases oc_ix v3 (n := tc) (by omega) with c | ⟨c, hc, rfl⟩
  · exact oc_xT0 c (h _ _ J)
  refine oc_xT1 hc (by omega) ⟨oc_v16 (by omega) hb, ?_⟩
  rw [oc_k16 (by omega) hb]
  refine br_c (fun z => ⟨vp_in_nI (by omega) (by omega), ?_⟩) (fun _ => h _ _ J)
  rw [nI_clamp (n := a) (by omega), (hT.2 a ha).1]
  have l16 := oc_lc_16 tm a
  refine pk_lt (oc_lc tm a) 8 (fun q => ⟨tc + 1, ?_⟩) (fun q => h _ _ J)
  refine oc_xfind h2 h4 ha hb (hT.2 a ha).1 tc 0 (by omega) (fun j j1 j2 j3 j4 => h _ _ J) (fun w => ⟨fun y => ?_, fun y => h _ _ J⟩)
  exact h _ _ (oc_jm ⟨h1, h2, by omega, by omega, h5, h6, h7, oc_Nd_tc hN (by omega), oc_Ty_new hT h3 ha hb hc (by omega) z, hm, hK, hL, hr⟩)
/-! check: with the table of types that it stands for -/
def oc_CK (v1 T : Int32) (u : St2) : Prop := T < 0 ∨ ∃ (NC TC tc nc us ob : Nat) (fail res fl fc val : Int32) (tm mk kd par num ann rcv bod mc ml mb cd cb ce org co cr fn fe fp : Nat → Int32) (r t : Nat) (rt rn : Nat → Int32), u = (nI NC, nI TC, nI tc, nI nc, fail, res, fl, nI us, nI ob, fc, val, tm, mk, kd, par, num, ann, rcv, bod, mc, ml, mb, cd, cb, ce, org, co, cr, fn, fe, fp) ∧ oc_I NC TC tc nc us ob res tm mk kd par num ann rcv bod mc ml mb ∧ r < nc ∧ v1 = nI r ∧ oc_Tab tc tm kd par num ann rcv bod mc ml mb r rt rn (r + 1) ∧ t < tc ∧ rt r = nI t ∧ T = nI t
theorem oc_jc {u : St2} {post : Int32 → St2 → Prop} {v1 : Int32} (I : oc_J u) (h : ∀ r u', oc_J u' → oc_CK v1 r u' → post r u') : wpX_check post u v1 := by
  obtain ⟨NC, TC, tc, nc, us, ob, fail, res, fl, fc, val, tm, mk, kd, par, num, ann, rcv, bod, mc, ml, mb, cd, cb, ce, org, co, cr, fn, fe, fp, rfl, hI⟩ := I
  have H := hI
  obtain ⟨h1, h2, h3, h4, h5, h6, h7, hN, hT, hm, hK, hL, hr⟩ := hI
  unfold wpX_check
  rcases oc_ix v1 (n := nc) (by omega) with a | ⟨a, ha, rfl⟩
  · exact oc_xN0 a (h _ _ (oc_jm H) (Or.inl (by decide)))
  · refine oc_xN1 ha (by omega) ?_
    obtain ⟨rt, rn, Tb⟩ := oc_Tab_ex (r := a) (show nc ≤ 32 by omega) (show tc ≤ 32 by omega) hN hT (a + 1) (by omega)
    refine oc_xck (fail := fail) (by omega) (by omega) ha hN hT Tb (fun z cd' => ?_) (fun z cd' => ?_)
    · exact h _ _ (oc_jm H) (Or.inl z)
    · rcases (Tb a (by omega)).2 with y | ⟨t, y1, y2⟩
      · exact absurd y z
      · exact h _ _ (oc_jm H) (Or.inr ⟨NC, TC, tc, nc, us, ob, -1, res, fl, fc, val, tm, mk, kd, par, num, ann, rcv, bod, mc, ml, mb, cd', cb, ce, org, co, cr, fn, fe, fp, a, t, rt, rn, rfl, H, ha, rfl, Tb, y1, y2, y2⟩)
