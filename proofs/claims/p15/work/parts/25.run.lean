/-! runs of X -/
theorem oc_xev {NC TC tc nc us ob P sX q F : Nat} {fail val : Int32} {tm mk kd par num ann rcv bod mc ml mb cd cb ce org co cr fn fe fp : Nat → Int32} {post : Int32 → St2 → Prop} (h1 : sX + (P + 1) < 1000000) (hq : q < 48)
    (w : wpX_advance (fun r_37 u => match u with | (a0, a1, a2, a3, a4, a5, a6, a7, a8, a9, a10, b1, b2, b3, b4, b5, b6, b7, b8, b9, b10, b11, b12, b13, b14, b15, b16, b17, b18, b19, b20) => wX_evaluate_9 post (P + 2) r_37 (nI (sX + 1)) a0 a1 a2 a3 a4 a5 a6 a7 a8 a9 a10 b1 b2 b3 b4 b5 b6 b7 b8 b9 b10 b11 b12 b13 b14 b15 b16 b17 b18 b19 b20) (nI NC, nI TC, nI tc, nI nc, fail, -1, nI F, nI us, nI ob, nI (q + 1), val, tm, mk, kd, par, num, ann, rcv, bod, mc, ml, mb, cd, cb, ce, org, co, cr, fn, fe, fp)) :
    wX_evaluate_9 post (P + 1 + 2) 0 (nI sX) (nI NC) (nI TC) (nI tc) (nI nc) fail (-1) (nI F) (nI us) (nI ob) (nI (q + 1)) val tm mk kd par num ann rcv bod mc ml mb cd cb ce org co cr fn fe fp := by
  refine br_f (nI_ge (b := 1000000) (by omega) (by omega)) (br_t rfl (br_f (nI_nle (by omega) (by omega)) ?_))
  rw [nI_1]
  simp only [forall_eq]
  exact w
theorem oc_xe0 {NC TC tc nc us ob P sX F : Nat} {fail val : Int32} {tm mk kd par num ann rcv bod mc ml mb cd cb ce org co cr fn fe fp : Nat → Int32} {post : Int32 → St2 → Prop} (h1 : sX < 1000000) (h : post 0 (nI NC, nI TC, nI tc, nI nc, fail, val, nI F, nI us, nI ob, nI 0, val, tm, mk, kd, par, num, ann, rcv, bod, mc, ml, mb, cd, cb, ce, org, co, cr, fn, fe, fp)) :
    wX_evaluate_9 post (P + 2) 0 (nI sX) (nI NC) (nI TC) (nI tc) (nI nc) fail (-1) (nI F) (nI us) (nI ob) (nI 0) val tm mk kd par num ann rcv bod mc ml mb cd cb ce org co cr fn fe fp :=
  br_f (nI_ge (b := 1000000) (by omega) (by omega)) (br_t rfl (br_t (by decide) (br_t rfl h)))
theorem oc_xee {NC TC tc nc us ob P F c : Nat} {fail val fc s : Int32} {tm mk kd par num ann rcv bod mc ml mb cd cb ce org co cr fn fe fp : Nat → Int32} {post : Int32 → St2 → Prop} (c1 : 1 ≤ c) (c2 : c ≤ 5) (h : post (nI c) (nI NC, nI TC, nI tc, nI nc, fail, -1, nI F, nI us, nI ob, fc, val, tm, mk, kd, par, num, ann, rcv, bod, mc, ml, mb, cd, cb, ce, org, co, cr, fn, fe, fp)) :
    wX_evaluate_9 post (P + 1) (nI c) s (nI NC) (nI TC) (nI tc) (nI nc) fail (-1) (nI F) (nI us) (nI ob) fc val tm mk kd par num ann rcv bod mc ml mb cd cb ce org co cr fn fe fp := by
  have nc0 : ¬ nI c = 0 := nI_ne0 (by omega) (by omega)
  have e : wX_evaluate_37 post (nI c) (nI NC) (nI TC) (nI tc) (nI nc) fail (-1) (nI F) (nI us) (nI ob) fc val tm mk kd par num ann rcv bod mc ml mb cd cb ce org co cr fn fe fp := br_f nc0 h
  exact br_c (fun _ => e) (fun _ => br_f nc0 e)
theorem oc_xlock {NC TC tc nc : Nat} {fail : Int32} {tm mk kd par num ann rcv bod mc ml mb cd : Nat → Int32} {r F : Nat} (hc : nc ≤ 32) (htc : tc ≤ 32) (hF : F ≤ 128) (hr : r < nc) (N : oc_Nd nc tc kd par num ann rcv bod mc ml mb) (C : oc_Cl nc par kd num bod r) :
    ∀ (P us ob fc : Nat) (val ret : Int32) (cb ce oe org co cr fn fe fp gn ge gd gs : Nat → Int32), oc_MM nc r F par kd bod us ob fc val ret cb ce oe co cr fn fe fp gn ge gd gs → oc_Ph F us fc fn fp ≤ P → ∀ sX, sX + P < 1000000 →
      ∃ (c us' ob' : Nat) (res' fc' val' : Int32) (cb' ce' org' co' cr' fn' fe' fp' : Nat → Int32), us' ≤ 128 ∧ ob' ≤ 32 ∧ (res' = -1 ∨ ∃ o, o < ob' ∧ res' = nI o) ∧
        (∀ post : Int32 → St2 → Prop, post (nI c) (nI NC, nI TC, nI tc, nI nc, fail, res', nI F, nI us', nI ob', fc', val', tm, mk, kd, par, num, ann, rcv, bod, mc, ml, mb, cd, cb', ce', org', co', cr', fn', fe', fp') → wX_evaluate_9 post (P + 2) 0 (nI sX) (nI NC) (nI TC) (nI tc) (nI nc) fail (-1) (nI F) (nI us) (nI ob) (nI fc) val tm mk kd par num ann rcv bod mc ml mb cd cb ce org co cr fn fe fp) := by
  intro P
  induction P with
  | zero =>
    intro us ob fc val ret cb ce oe org co cr fn fe fp gn ge gd gs M hP sX h1
    obtain ⟨m1, m2, m3, mO, mF, mV⟩ := M
    have f0 : fc = 0 := by
      cases fc with
      | zero => rfl
      | succ q =>
        have := oc_Ph_pop (F := F) (us := us) (q := q) (fn := fn) (fp := fp)
        omega
    subst f0
    obtain ⟨o, o1, rfl, rfl⟩ : ∃ o, o < ob ∧ val = nI o ∧ ret = nI o := by
      rcases mV with ⟨q', e1, e2⟩ | y
      · omega
      · exact y
    exact ⟨0, us, ob, nI o, nI 0, nI o, cb, ce, org, co, cr, fn, fe, fp, by omega, m2, Or.inr ⟨o, o1, rfl⟩, fun post h => oc_xe0 (by omega) h⟩
  | succ P ih =>
    intro us ob fc val ret cb ce oe org co cr fn fe fp gn ge gd gs M hP sX h1
    cases fc with
    | zero =>
      obtain ⟨m1, m2, m3, mO, mF, mV⟩ := M
      obtain ⟨o, o1, rfl, rfl⟩ : ∃ o, o < ob ∧ val = nI o ∧ ret = nI o := by
        rcases mV with ⟨q', e1, e2⟩ | y
        · omega
        · exact y
      exact ⟨0, us, ob, nI o, nI 0, nI o, cb, ce, org, co, cr, fn, fe, fp, by omega, m2, Or.inr ⟨o, o1, rfl⟩, fun post h => oc_xe0 (by omega) h⟩
    | succ q =>
      have m2 := M.2.1
      have m3 := M.2.2.1
      rcases oc_xstep (NC := NC) (TC := TC) (fail := fail) (res := -1) (tm := tm) (mk := mk) (cd := cd) (org := org) hc htc hF hr N C M with ⟨us', ob', fc', val', ret', cb', ce', oe', org', co', cr', fn', fe', fp', gn', ge', gd', gs', M', hP', hX⟩ | ⟨c, us', co', cr', fp', c1, c2, c3, hX⟩
      · obtain ⟨c, us2, ob2, res2, fc2, val2, cb2, ce2, org2, co2, cr2, fn2, fe2, fp2, i1, i2, i3, iX⟩ := ih us' ob' fc' val' ret' cb' ce' oe' org' co' cr' fn' fe' fp' gn' ge' gd' gs' M' (by omega) (sX + 1) (by omega)
        exact ⟨c, us2, ob2, res2, fc2, val2, cb2, ce2, org2, co2, cr2, fn2, fe2, fp2, i1, i2, i3, fun post h => oc_xev (by omega) (by omega) (hX _ (iX post h))⟩
      · exact ⟨c, us', ob, -1, nI (q + 1), val, cb, ce, org, co', cr', fn, fe, fp', by omega, m2, Or.inl rfl, fun post h => oc_xev (by omega) (by omega) (hX _ (oc_xee c1 c2 h))⟩
theorem oc_tlock {NC TC tc nc : Nat} {fail : Int32} {tm mk kd par num ann rcv bod mc ml mb cd rt rn : Nat → Int32} {r F t : Nat} (hc : nc ≤ 32) (htc : tc ≤ 32) (hF : F ≤ 128) (hr : r < nc) (N : oc_Nd nc tc kd par num ann rcv bod mc ml mb) (Y : oc_Ty tc tm mk) (D : oc_Ld nc kd mc ml) (T : oc_Tab tc tm kd par num ann rcv bod mc ml mb r rt rn (r + 1)) (hA : ∀ n, n < nc → oc_li par r n = true → ¬ rt n < 0) (ht : t < tc) (et : rt r = nI t) :
    ∀ (P us ob fc : Nat) (val : Int32) (cb ce org co cr fn fe fp : Nat → Int32) (ty : Nat → Nat), oc_TM tc nc r F tm par kd bod ann rcv rt us ob fc val cb ce co cr fn fe fp ty → oc_Ph F us fc fn fp ≤ P → ∀ sX, sX + P < 1000000 →
      ∃ (c us' ob' : Nat) (res' fc' val' : Int32) (cb' ce' org' co' cr' fn' fe' fp' : Nat → Int32), us' ≤ 128 ∧ ob' ≤ 32 ∧ ((c = 0 ∧ ∃ o, o < ob' ∧ res' = nI o ∧ (¬ t = 0 → ∀ l, l < 16 → ¬ tm (t * 16 + l) = -1 → ∃ b, b < 32 ∧ cb' (o * 16 + l) = nI b)) ∨ ((c = 3 ∨ c = 4 ∨ c = 5) ∧ res' = -1)) ∧
        (∀ post : Int32 → St2 → Prop, post (nI c) (nI NC, nI TC, nI tc, nI nc, fail, res', nI F, nI us', nI ob', fc', val', tm, mk, kd, par, num, ann, rcv, bod, mc, ml, mb, cd, cb', ce', org', co', cr', fn', fe', fp') → wX_evaluate_9 post (P + 2) 0 (nI sX) (nI NC) (nI TC) (nI tc) (nI nc) fail (-1) (nI F) (nI us) (nI ob) (nI fc) val tm mk kd par num ann rcv bod mc ml mb cd cb ce org co cr fn fe fp) := by
  have fin : ∀ (P us ob : Nat) (val : Int32) (cb ce org co cr fn fe fp : Nat → Int32) (ty : Nat → Nat), oc_TM tc nc r F tm par kd bod ann rcv rt us ob 0 val cb ce co cr fn fe fp ty → ∀ sX, sX < 1000000 →
      ∃ (c us' ob' : Nat) (res' fc' val' : Int32) (cb' ce' org' co' cr' fn' fe' fp' : Nat → Int32), us' ≤ 128 ∧ ob' ≤ 32 ∧ ((c = 0 ∧ ∃ o, o < ob' ∧ res' = nI o ∧ (¬ t = 0 → ∀ l, l < 16 → ¬ tm (t * 16 + l) = -1 → ∃ b, b < 32 ∧ cb' (o * 16 + l) = nI b)) ∨ ((c = 3 ∨ c = 4 ∨ c = 5) ∧ res' = -1)) ∧
        (∀ post : Int32 → St2 → Prop, post (nI c) (nI NC, nI TC, nI tc, nI nc, fail, res', nI F, nI us', nI ob', fc', val', tm, mk, kd, par, num, ann, rcv, bod, mc, ml, mb, cd, cb', ce', org', co', cr', fn', fe', fp') → wX_evaluate_9 post (P + 2) 0 (nI sX) (nI NC) (nI TC) (nI tc) (nI nc) fail (-1) (nI F) (nI us) (nI ob) (nI 0) val tm mk kd par num ann rcv bod mc ml mb cd cb ce org co cr fn fe fp) := by
    intro P us ob val cb ce org co cr fn fe fp ty M sX h1
    obtain ⟨m1, m2, m3, mO, mF, mV⟩ := M
    obtain ⟨o, o1, rfl, o3⟩ : ∃ o, o < ob ∧ val = nI o ∧ oc_sub tm (ty o) t := by
      rcases mV with ⟨q', e1, e2⟩ | ⟨o, o1, o2, o3⟩
      · omega
      · refine ⟨o, o1, o2, ?_⟩
        rw [oc_ex_0, et, nI_clamp (by omega)] at o3
        exact o3
    refine ⟨0, us, ob, nI o, nI 0, nI o, cb, ce, org, co, cr, fn, fe, fp, by omega, m2, Or.inl ⟨rfl, o, o1, rfl, fun t0 l hl hm => ?_⟩, fun post h => oc_xe0 (by omega) h⟩
    have e := oc_sub_me o3 t0 hl hm
    rcases (Y.2 t ht).2 l hl with y | ⟨m', y1, y2⟩
    · exact absurd y hm
    rw [y2] at e
    obtain ⟨b, p, u, x1, x2, x3, x4, x5, x6, -⟩ := (mO o o1).2.2 l hl m' y1 e
    exact ⟨b, by omega, x6⟩
  intro P
  induction P with
  | zero =>
    intro us ob fc val cb ce org co cr fn fe fp ty M hP sX h1
    have f0 : fc = 0 := by
      cases fc with
      | zero => rfl
      | succ q =>
        have := oc_Ph_pop (F := F) (us := us) (q := q) (fn := fn) (fp := fp)
        omega
    subst f0
    exact fin 0 us ob val cb ce org co cr fn fe fp ty M sX (by omega)
  | succ P ih =>
    intro us ob fc val cb ce org co cr fn fe fp ty M hP sX h1
    cases fc with
    | zero => exact fin (P + 1) us ob val cb ce org co cr fn fe fp ty M sX (by omega)
    | succ q =>
      have m2 := M.2.1
      have m3 := M.2.2.1
      rcases oc_tstep (NC := NC) (TC := TC) (fail := fail) (res := -1) (cd := cd) (org := org) hc htc hF hr N Y D T hA M with ⟨us', ob', fc', val', cb', ce', org', co', cr', fn', fe', fp', ty', M', hP', hX⟩ | ⟨c, us', co', cr', fp', c1, c3, hX⟩
      · obtain ⟨c, us2, ob2, res2, fc2, val2, cb2, ce2, org2, co2, cr2, fn2, fe2, fp2, i1, i2, i3, iX⟩ := ih us' ob' fc' val' cb' ce' org' co' cr' fn' fe' fp' ty' M' (by omega) (sX + 1) (by omega)
        exact ⟨c, us2, ob2, res2, fc2, val2, cb2, ce2, org2, co2, cr2, fn2, fe2, fp2, i1, i2, i3, fun post h => oc_xev (by omega) (by omega) (hX _ (iX post h))⟩
      · exact ⟨c, us', ob, -1, nI (q + 1), val, cb, ce, org, co', cr', fn, fe, fp', by omega, m2, Or.inr ⟨c1, rfl⟩, fun post h => oc_xev (by omega) (by omega) (hX _ (oc_xee (by omega) (by omega) h))⟩
theorem oc_cl0 (p : Int32) : ∃ F : Nat, F ≤ 128 ∧ ∀ G : Int32 → Prop, G (nI F) → (0 ≤ p → ((p ≤ 128 → G p) ∧ (¬ p ≤ 128 → G 128))) ∧ (¬ 0 ≤ p → G 0) := by
  by_cases a : 0 ≤ p
  · by_cases b : p ≤ 128
    · obtain ⟨c, hc, rfl⟩ := nI_of2 (M := 128) (n := 128) (by decide) (Int32.not_lt.mpr a) b
      exact ⟨c, hc, fun G h => br_t a (br_t b h)⟩
    · exact ⟨128, by omega, fun G h => br_t a (br_f b h)⟩
  · exact ⟨0, by omega, fun G h => br_f a h⟩
theorem oc_ph0 {F r : Nat} {fn fp : Nat → Int32} (hF : F ≤ 128) (hr : r < 32) : oc_Ph F 0 1 (upd fn 0 (nI r)) (upd fp 0 0) ≤ 12384 := by
  unfold oc_Ph
  rw [oc_sm, oc_sm]
  unfold oc_wt
  rw [pk_us, pk_us, if_pos rfl, nI_clamp (by omega)]
  omega
def oc_RU (T rr : Int32) (u : St2) : Prop := T < 0 ∨ ∃ (NC TC tc nc us ob : Nat) (fail res fl fc val : Int32) (tm mk kd par num ann rcv bod mc ml mb cd cb ce org co cr fn fe fp : Nat → Int32) (t : Nat), u = (nI NC, nI TC, nI tc, nI nc, fail, res, fl, nI us, nI ob, fc, val, tm, mk, kd, par, num, ann, rcv, bod, mc, ml, mb, cd, cb, ce, org, co, cr, fn, fe, fp) ∧ oc_I NC TC tc nc us ob res tm mk kd par num ann rcv bod mc ml mb ∧ t < tc ∧ T = nI t ∧
  ((rr = 0 ∧ ∃ o, o < ob ∧ res = nI o ∧ (¬ t = 0 → ∀ l, l < 16 → ¬ tm (t * 16 + l) = -1 → ∃ b, b < 32 ∧ cb (o * 16 + l) = nI b)) ∨ (rr = 3 ∨ rr = 4 ∨ rr = 5))
theorem oc_jr {u : St2} {post : Int32 → St2 → Prop} {v1 T : Int32} (I : oc_J u) (K : oc_CK v1 T u) (h : ∀ r u', oc_J u' → oc_RU T r u' → post r u') (v2 : Int32) : wpX_run post u v1 v2 := by
  obtain ⟨F, hF, hG⟩ := oc_cl0 v2
  have cX : ∀ post : Int32 → Prop, post (nI F) → wpX_clamp post () v2 0 128 := fun post h => hG post h
  rcases K with K | ⟨NC, TC, tc, nc, us, ob, fail, res, fl, fc, val, tm, mk, kd, par, num, ann, rcv, bod, mc, ml, mb, cd, cb, ce, org, co, cr, fn, fe, fp, r, t, rt, rn, rfl, hI, hr', rfl, hTb, ht, et, rfl⟩
  · obtain ⟨NC, TC, tc, nc, us, ob, fail, res, fl, fc, val, tm, mk, kd, par, num, ann, rcv, bod, mc, ml, mb, cd, cb, ce, org, co, cr, fn, fe, fp, rfl, hI⟩ := I
    have H := hI
    obtain ⟨h1, h2, h3, h4, h5, h6, h7, hN, hT, hm, hK, hL, hr⟩ := hI
    unfold wpX_run
    rcases oc_ix v1 (n := nc) (by omega) with a | ⟨r, hr', rfl⟩
    · exact oc_xN0 a (h _ _ (oc_jm H) (Or.inl K))
    refine oc_xN1 hr' (by omega) (oc_xcl (by omega) hr' hN (fun C => br_f oc_10 ?_) (fun C => br_t rfl (h _ _ (oc_jm H) (Or.inl K))))
    have M : oc_MM nc r F par kd bod 0 0 1 val (-1) cb ce ce co cr (upd fn 0 (nI r)) (upd fe 0 (-1)) (upd fp 0 0) (upd fn 0 (nI r)) (upd fe 0 (-1)) (upd fn 0 1) (upd fp 0 0) := by
      refine ⟨by omega, by omega, by omega, fun o l ho => absurd ho (Nat.not_lt_zero _), fun j hj => ?_, Or.inl ⟨0, rfl, pk_us⟩⟩
      have j0 : j = 0 := by omega
      subst j0
      refine ⟨r, hr', oc_li_r _ _, pk_us, pk_us, ?_, rfl, pk_us, rfl, Or.inl ⟨pk_us, rfl⟩⟩
      rw [oc_dp_r]
      trivial
    obtain ⟨c, us2, ob2, res2, fc2, val2, cb2, ce2, org2, co2, cr2, fn2, fe2, fp2, i1, i2, i3, iX⟩ := oc_xlock (NC := NC) (TC := TC) (fail := fail) (tm := tm) (mk := mk) (cd := cd) (show nc ≤ 32 by omega) (show tc ≤ 32 by omega) hF hr' hN C 12384 0 0 1 val (-1) cb ce ce org co cr _ _ _ _ _ _ _ M (oc_ph0 hF (by omega)) 0 (by omega)
    refine cX _ ?_
    unfold wpX_evaluate
    refine oc_xen1 (q := 0) (by omega) ⟨12386, iX _ ?_⟩
    exact h _ _ (oc_jm ⟨h1, h2, h3, h4, h5, i1, i2, hN, hT, hm, hK, hL, i3⟩) (Or.inl K)
  · obtain ⟨h1, h2, h3, h4, h5, h6, h7, hN, hT, hm, hK, hL, hr⟩ := hI
    have nn : ¬ rt r < 0 := by rw [et]; exact nI_pos (by omega)
    have hA := oc_tA (show nc ≤ 32 by omega) (show tc ≤ 32 by omega) hr' hN hT hK hTb nn
    have C := oc_tC (show nc ≤ 32 by omega) (show tc ≤ 32 by omega) hr' hN hT hK hTb nn
    unfold wpX_run
    refine oc_xN1 hr' (by omega) (oc_xcl (by omega) hr' hN (fun _ => br_f oc_10 ?_) (fun q => absurd C q))
    have M : oc_TM tc nc r F tm par kd bod ann rcv rt 0 0 1 val cb ce co cr (upd fn 0 (nI r)) (upd fe 0 (-1)) (upd fp 0 0) (fun _ => 0) := by
      refine ⟨by omega, by omega, by omega, fun o ho => absurd ho (Nat.not_lt_zero _), fun j hj => ?_, Or.inl ⟨0, rfl, pk_us⟩⟩
      have j0 : j = 0 := by omega
      subst j0
      exact ⟨r, hr', oc_li_r _ _, pk_us, oc_ET_r, Or.inl rfl, Or.inl ⟨pk_us, rfl⟩⟩
    obtain ⟨c, us2, ob2, res2, fc2, val2, cb2, ce2, org2, co2, cr2, fn2, fe2, fp2, i1, i2, i3, iX⟩ := oc_tlock (NC := NC) (TC := TC) (fail := fail) (cd := cd) (show nc ≤ 32 by omega) (show tc ≤ 32 by omega) hF hr' hN hT hL hTb hA ht et 12384 0 0 1 val cb ce org co cr _ _ _ _ M (oc_ph0 hF (by omega)) 0 (by omega)
    have HI : oc_I NC TC tc nc us2 ob2 res2 tm mk kd par num ann rcv bod mc ml mb := by
      refine ⟨h1, h2, h3, h4, h5, i1, i2, hN, hT, hm, hK, hL, ?_⟩
      rcases i3 with ⟨-, o, o1, o2, -⟩ | ⟨-, e⟩
      · exact Or.inr ⟨o, o1, o2⟩
      · exact Or.inl e
    refine cX _ ?_
    unfold wpX_evaluate
    refine oc_xen1 (q := 0) (by omega) ⟨12386, iX _ ?_⟩
    refine h _ _ (oc_jm HI) (Or.inr ⟨NC, TC, tc, nc, us2, ob2, fail, res2, nI F, fc2, val2, tm, mk, kd, par, num, ann, rcv, bod, mc, ml, mb, cd, cb2, ce2, org2, co2, cr2, fn2, fe2, fp2, t, rfl, HI, ht, rfl, ?_⟩)
    rcases i3 with ⟨e, g⟩ | ⟨e, -⟩
    · exact Or.inl ⟨by rw [e, nI_0], g⟩
    · refine Or.inr ?_
      rcases e with e | e | e
      · exact Or.inl (by rw [e]; rfl)
      · exact Or.inr (Or.inl (by rw [e]; rfl))
      · exact Or.inr (Or.inr (by rw [e]; rfl))
