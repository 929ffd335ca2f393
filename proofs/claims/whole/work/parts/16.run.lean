/-! both runs in lockstep -/
theorem oc_lock {NC TC tc nc : Nat} {fail : Int32} {tm mk kd par num ann rcv bod mc ml mb cd kY nk rt rn : Nat → Int32} {r F : Nat} (hc : nc ≤ 32) (htc : tc ≤ 32) (hF : F ≤ 128) (hr : r < nc) (N : oc_Nd nc tc kd par num ann rcv bod mc ml mb) (C : oc_Cl nc par kd num bod r) (hK : ∀ n, n < nc → kY n = kd n + 1 ∧ (¬ kd n = 1 → nk n = num n)) :
    ∀ (P us ob fc : Nat) (val ret : Int32) (cb ce oe org co cr fn fe fp gn ge gd gs : Nat → Int32), oc_MM nc r F par kd bod us ob fc val ret cb ce oe co cr fn fe fp gn ge gd gs → oc_Ph F us fc fn fp ≤ P → ∀ sX sY, sX + P < 1000000 → sY + P + 2 < 65536 →
      ∃ (c us' ob' : Nat) (res' fc' val' sp' ret' : Int32) (cb' ce' oe' org' co' cr' fn' fe' fp' gn' ge' gd' gs' : Nat → Int32), us' ≤ 128 ∧ ob' ≤ 32 ∧ (res' = -1 ∨ ∃ o, o < ob' ∧ res' = nI o) ∧
        (∀ post : Int32 → SX → Prop, post (nI c) (nI NC, nI TC, nI tc, nI nc, fail, res', nI F, nI us', nI ob', fc', val', tm, mk, kd, par, num, ann, rcv, bod, mc, ml, mb, cd, cb', ce', org', co', cr', fn', fe', fp') → wX_evaluate_9 post (P + 2) 0 (nI sX) (nI NC) (nI TC) (nI tc) (nI nc) fail (-1) (nI F) (nI us) (nI ob) (nI fc) val tm mk kd par num ann rcv bod mc ml mb cd cb ce org co cr fn fe fp) ∧
        (∀ post : Int32 → SY → Prop, post (nI c) (nI NC, nI TC, nI tc, nI nc, fail, sp', ret', nI us', nI ob', nI F, res', tm, kY, nk, rcv, bod, ann, par, mc, ml, mb, rt, rn, cb', oe', org', co', cr', gn', ge', gd', gs') → wY_run_84 post (P + 4) (-1) (nI sY) (nI NC) (nI TC) (nI tc) (nI nc) fail (nI fc) ret (nI us) (nI ob) (nI F) (-1) tm kY nk rcv bod ann par mc ml mb rt rn cb oe org co cr gn ge gd gs) := by
  intro P
  induction P with
  | zero =>
    intro us ob fc val ret cb ce oe org co cr fn fe fp gn ge gd gs M hP sX sY h1 h2
    obtain ⟨m1, m2, m3, mO, mF, mV⟩ := M
    have f0 : fc = 0 := by
      cases fc with
      | zero => rfl
      | succ q =>
        have := oc_Ph_pop (F := F) (us := us) (q := q) (fn := fn) (fp := fp)
        omega
    subst f0
    obtain ⟨o, o1, rfl, rfl⟩ : ∃ o, o < ob ∧ val = nI o ∧ ret = nI o := by
      rcases mV with ⟨q', e1, e2⟩ | y
      · omega
      · exact y
    refine ⟨0, us, ob, nI o, nI 0, nI o, nI 0, nI o, cb, ce, oe, org, co, cr, fn, fe, fp, gn, ge, gd, gs, by omega, m2, Or.inr ⟨o, o1, rfl⟩, fun post h => ?_, fun post h => ?_⟩
    · exact br_f (nI_ge (b := 1000000) (by omega) (by omega)) (br_t rfl (br_t (by decide) (br_t rfl h)))
    · exact br_f (nI_ge (b := 65536) (by omega) (by omega)) (br_t (by decide) (br_t (by decide) (br_t (by decide) h)))
  | succ P ih =>
    intro us ob fc val ret cb ce oe org co cr fn fe fp gn ge gd gs M hP sX sY h1 h2
    cases fc with
    | zero =>
      obtain ⟨m1, m2, m3, mO, mF, mV⟩ := M
      obtain ⟨o, o1, rfl, rfl⟩ : ∃ o, o < ob ∧ val = nI o ∧ ret = nI o := by
        rcases mV with ⟨q', e1, e2⟩ | y
        · omega
        · exact y
      refine ⟨0, us, ob, nI o, nI 0, nI o, nI 0, nI o, cb, ce, oe, org, co, cr, fn, fe, fp, gn, ge, gd, gs, by omega, m2, Or.inr ⟨o, o1, rfl⟩, fun post h => ?_, fun post h => ?_⟩
      · exact br_f (nI_ge (b := 1000000) (by omega) (by omega)) (br_t rfl (br_t (by decide) (br_t rfl h)))
      · exact br_f (nI_ge (b := 65536) (by omega) (by omega)) (br_t (by decide) (br_t (by decide) (br_t (by decide) h)))
    | succ q =>
      have m1 := M.1
      have m2 := M.2.1
      have m3 := M.2.2.1
      have pX : ∀ post : Int32 → SX → Prop, wpX_advance (fun r_37 u => match u with | (a0, a1, a2, a3, a4, a5, a6, a7, a8, a9, a10, b1, b2, b3, b4, b5, b6, b7, b8, b9, b10, b11, b12, b13, b14, b15, b16, b17, b18, b19, b20) => wX_evaluate_9 post (P + 2) r_37 (nI (sX + 1)) a0 a1 a2 a3 a4 a5 a6 a7 a8 a9 a10 b1 b2 b3 b4 b5 b6 b7 b8 b9 b10 b11 b12 b13 b14 b15 b16 b17 b18 b19 b20) (nI NC, nI TC, nI tc, nI nc, fail, -1, nI F, nI us, nI ob, nI (q + 1), val, tm, mk, kd, par, num, ann, rcv, bod, mc, ml, mb, cd, cb, ce, org, co, cr, fn, fe, fp) → wX_evaluate_9 post (P + 1 + 2) 0 (nI sX) (nI NC) (nI TC) (nI tc) (nI nc) fail (-1) (nI F) (nI us) (nI ob) (nI (q + 1)) val tm mk kd par num ann rcv bod mc ml mb cd cb ce org co cr fn fe fp := fun post w => by
        refine br_f (nI_ge (b := 1000000) (by omega) (by omega)) (br_t rfl (br_f (nI_nle (by omega) (by omega)) ?_))
        rw [nI_1]
        simp only [forall_eq]
        exact w
      rcases oc_step (NC := NC) (TC := TC) (fail := fail) (res := -1) (tm := tm) (mk := mk) (cd := cd) (rt := rt) (rn := rn) (org := org) hc htc hF hr N C hK M with ⟨us', ob', fc', val', ret', cb', ce', oe', org', co', cr', fn', fe', fp', gn', ge', gd', gs', M', hP', hX, hY⟩ | ⟨c, us', sp', co', cr', fp', gn', ge', gd', gs', c1, c2, c3, hX, hY⟩
      · obtain ⟨c, us2, ob2, res2, fc2, val2, sp2, ret2, cb2, ce2, oe2, org2, co2, cr2, fn2, fe2, fp2, gn2, ge2, gd2, gs2, i1, i2, i3, iX, iY⟩ := ih us' ob' fc' val' ret' cb' ce' oe' org' co' cr' fn' fe' fp' gn' ge' gd' gs' M' (by omega) (sX + 1) (sY + 1) (by omega) (by omega)
        refine ⟨c, us2, ob2, res2, fc2, val2, sp2, ret2, cb2, ce2, oe2, org2, co2, cr2, fn2, fe2, fp2, gn2, ge2, gd2, gs2, i1, i2, i3, fun post h => ?_, fun post h => ?_⟩
        · exact pX post (hX _ (iX post h))
        · exact oc_yrs (by omega) (by omega) (hY _ (iY post h))
      · refine ⟨c, us', ob, -1, nI (q + 1), val, sp', ret, cb, ce, oe, org, co', cr', fn, fe, fp', gn', ge', gd', gs', by omega, m2, Or.inl rfl, fun post h => ?_, fun post h => ?_⟩
        · refine pX post (hX _ ?_)
          have nc0 : ¬ nI c = 0 := nI_ne0 (by omega) (by omega)
          have e : wX_evaluate_37 post (nI c) (nI NC) (nI TC) (nI tc) (nI nc) fail (-1) (nI F) (nI us') (nI ob) (nI (q + 1)) val tm mk kd par num ann rcv bod mc ml mb cd cb ce org co' cr' fn fe fp' := br_f nc0 h
          exact br_c (fun _ => e) (fun _ => br_f nc0 e)
        · exact hY post (P + 2) sY (by omega) h
theorem oc_cl0 (p : Int32) : ∃ F : Nat, F ≤ 128 ∧ ∀ G : Int32 → Prop, G (nI F) → (0 ≤ p → ((p ≤ 128 → G p) ∧ (¬ p ≤ 128 → G 128))) ∧ (¬ 0 ≤ p → G 0) := by
  by_cases a : 0 ≤ p
  · by_cases b : p ≤ 128
    · obtain ⟨c, hc, rfl⟩ := nI_of2 (M := 128) (n := 128) (by decide) (Int32.not_lt.mpr a) b
      exact ⟨c, hc, fun G h => br_t a (br_t b h)⟩
    · exact ⟨128, by omega, fun G h => br_t a (br_f b h)⟩
  · exact ⟨0, by omega, fun G h => br_f a h⟩
theorem i_vc_run {k : Nat} {u : SX} {v : SY} (I : i_Rel k u v) (hk : k + 5 ≤ 2562) (v1 : Int32) (v2 : Int32) : wpX_run (fun r u' => wpY_run (fun r' v' => r' = r ∧ i_Rel (k + 5) u' v') v v1 v2) u v1 v2 := by
  have J : i_Rel (k + 5) u v := I
  obtain ⟨NC, TC, tc, nc, us, ob, fail, res, fl, fc, val, sp, ret, fu, tm, mk, kd, par, num, ann, rcv, bod, mc, ml, mb, cd, cb, ce, org, co, cr, fn, fe, fp, kY, nk, rt, rn, oe, gn, ge, gd, gs, rfl, rfl, h1, h2, h3, h4, h5, h6, h7, hN, hT, hm, hK, hr⟩ := I
  unfold wpX_run
  rcases oc_ix v1 (n := nc) (by omega) with a | ⟨r, hr', rfl⟩
  · refine oc_xN0 a ?_
    unfold wpY_run
    exact oc_yN0 a ⟨rfl, J⟩
  refine oc_xN1 hr' (by omega) (oc_xcl (by omega) hr' hN (fun C => br_f oc_10 ?_) (fun C => br_t rfl ?_))
  · obtain ⟨F, hF, hG⟩ := oc_cl0 v2
    have M : oc_MM nc r F par kd bod 0 0 1 val (-1) cb ce oe co cr (upd fn 0 (nI r)) (upd fe 0 (-1)) (upd fp 0 0) (upd gn 0 (nI r)) (upd ge 0 (-1)) (upd gd 0 1) (upd gs 0 0) := by
      refine ⟨by omega, by omega, by omega, fun o l ho => absurd ho (Nat.not_lt_zero _), fun j hj => ?_, Or.inl ⟨0, rfl, pk_us⟩⟩
      have j0 : j = 0 := by omega
      subst j0
      refine ⟨r, hr', oc_li_r _ _, pk_us, pk_us, ?_, by rw [pk_us, pk_us], pk_us, by rw [pk_us, pk_us], Or.inl ⟨pk_us, rfl⟩⟩
      rw [oc_dp_r]
      trivial
    have hPh : oc_Ph F 0 1 (upd fn 0 (nI r)) (upd fp 0 0) ≤ 12384 := by
      unfold oc_Ph
      rw [oc_sm, oc_sm]
      unfold oc_wt
      rw [pk_us, pk_us, if_pos rfl, nI_clamp (by omega)]
      omega
    obtain ⟨c, us2, ob2, res2, fc2, val2, sp2, ret2, cb2, ce2, oe2, org2, co2, cr2, fn2, fe2, fp2, gn2, ge2, gd2, gs2, i1, i2, i3, iX, iY⟩ := oc_lock (NC := NC) (TC := TC) (fail := fail) (tm := tm) (mk := mk) (cd := cd) (rt := rt) (rn := rn) (show nc ≤ 32 by omega) (show tc ≤ 32 by omega) hF hr' hN C hK 12384 0 0 1 val (-1) cb ce oe org co cr _ _ _ _ _ _ _ M hPh 0 0 (by omega) (by omega)
    have cX : ∀ post : Int32 → Prop, post (nI F) → wpX_clamp post v2 0 128 := fun post h => hG post h
    refine cX _ ?_
    unfold wpX_evaluate
    refine oc_xen1 (q := 0) (by omega) ⟨12386, iX _ ?_⟩
    unfold wpY_run
    refine oc_yN1 hr' (by omega) (oc_ycl (by omega) (by omega) hr' hN hK (fun _ => br_f oc_10 ?_) (fun q => absurd C q))
    refine hG (fun z => wY_run_45 _ (nI r) z (nI NC) (nI TC) (nI tc) (nI nc) fail sp ret (nI us) (nI ob) fu res tm kY nk rcv bod ann par mc ml mb rt rn cb oe org co cr gn ge gd gs) ?_
    unfold wY_run_45
    refine oc_yps (q := 0) (by omega) ⟨12388, iY _ ⟨rfl, ?_⟩⟩
    exact oc_mk ⟨h1, h2, h3, h4, h5, i1, i2, hN, hT, hm, hK, i3⟩
  · unfold wpY_run
    exact oc_yN1 hr' (by omega) (oc_ycl (by omega) (by omega) hr' hN hK (fun q => absurd q C) (fun _ => br_t rfl ⟨rfl, J⟩))
