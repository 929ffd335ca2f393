/-! both machines make one step -/
theorem oc_step {NC TC tc nc us ob : Nat} {fail res val ret : Int32} {tm mk kd par num ann rcv bod mc ml mb cd cb ce org co cr fn fe fp kY nk rt rn oe gn ge gd gs : Nat → Int32} {r F q : Nat} (hc : nc ≤ 32) (htc : tc ≤ 32) (hF : F ≤ 128) (hr : r < nc) (N : oc_Nd nc tc kd par num ann rcv bod mc ml mb) (C : oc_Cl nc par kd num bod r) (hK : ∀ n, n < nc → kY n = kd n + 1 ∧ (¬ kd n = 1 → nk n = num n))
    (M : oc_MM nc r F par kd bod us ob (q + 1) val ret cb ce oe co cr fn fe fp gn ge gd gs) :
    (∃ (us' ob' fc' : Nat) (val' ret' : Int32) (cb' ce' oe' org' co' cr' fn' fe' fp' gn' ge' gd' gs' : Nat → Int32), oc_MM nc r F par kd bod us' ob' fc' val' ret' cb' ce' oe' co' cr' fn' fe' fp' gn' ge' gd' gs' ∧ oc_Ph F us' fc' fn' fp' < oc_Ph F us (q + 1) fn fp ∧
      (∀ post : Int32 → SX → Prop, post 0 (nI NC, nI TC, nI tc, nI nc, fail, res, nI F, nI us', nI ob', nI fc', val', tm, mk, kd, par, num, ann, rcv, bod, mc, ml, mb, cd, cb', ce', org', co', cr', fn', fe', fp') → wpX_advance post (nI NC, nI TC, nI tc, nI nc, fail, res, nI F, nI us, nI ob, nI (q + 1), val, tm, mk, kd, par, num, ann, rcv, bod, mc, ml, mb, cd, cb, ce, org, co, cr, fn, fe, fp)) ∧
      (∀ post : Int32 → SY → Prop, post (-1) (nI NC, nI TC, nI tc, nI nc, fail, nI fc', ret', nI us', nI ob', nI F, res, tm, kY, nk, rcv, bod, ann, par, mc, ml, mb, rt, rn, cb', oe', org', co', cr', gn', ge', gd', gs') → wpY_step post (nI NC, nI TC, nI tc, nI nc, fail, nI (q + 1), ret, nI us, nI ob, nI F, res, tm, kY, nk, rcv, bod, ann, par, mc, ml, mb, rt, rn, cb, oe, org, co, cr, gn, ge, gd, gs))) ∨
    (∃ (c us' : Nat) (sp' : Int32) (co' cr' fp' gn' ge' gd' gs' : Nat → Int32), 1 ≤ c ∧ c ≤ 5 ∧ us' ≤ F ∧
      (∀ post : Int32 → SX → Prop, post (nI c) (nI NC, nI TC, nI tc, nI nc, fail, res, nI F, nI us', nI ob, nI (q + 1), val, tm, mk, kd, par, num, ann, rcv, bod, mc, ml, mb, cd, cb, ce, org, co', cr', fn, fe, fp') → wpX_advance post (nI NC, nI TC, nI tc, nI nc, fail, res, nI F, nI us, nI ob, nI (q + 1), val, tm, mk, kd, par, num, ann, rcv, bod, mc, ml, mb, cd, cb, ce, org, co, cr, fn, fe, fp)) ∧
      (∀ (post : Int32 → SY → Prop) (g s : Nat), s + 2 ≤ 65536 → post (nI c) (nI NC, nI TC, nI tc, nI nc, fail, sp', ret, nI us', nI ob, nI F, res, tm, kY, nk, rcv, bod, ann, par, mc, ml, mb, rt, rn, cb, oe, org, co', cr', gn', ge', gd', gs') → wY_run_84 post (g + 3) (-1) (nI s) (nI NC) (nI TC) (nI tc) (nI nc) fail (nI (q + 1)) ret (nI us) (nI ob) (nI F) res tm kY nk rcv bod ann par mc ml mb rt rn cb oe org co cr gn ge gd gs)) := by
  have M0 := M
  obtain ⟨m1, m2, m3, mO, mF, mV⟩ := M
  obtain ⟨n, w1, w2, w3, w4, w5, w6, w7, w8, w9⟩ := mF q (by omega)
  have hq : q < 48 := by omega
  have hn32 : n < 32 := by omega
  have kk := oc_ky N hK w1
  have hNn := N n w1
  -- a stop of both sides at once
  have stop : ∀ c : Nat, 1 ≤ c → c ≤ 5 → (∀ post : Int32 → SX → Prop, post (nI c) (nI NC, nI TC, nI tc, nI nc, fail, res, nI F, nI us, nI ob, nI (q + 1), val, tm, mk, kd, par, num, ann, rcv, bod, mc, ml, mb, cd, cb, ce, org, co, cr, fn, fe, fp) → wpX_advance post (nI NC, nI TC, nI tc, nI nc, fail, res, nI F, nI us, nI ob, nI (q + 1), val, tm, mk, kd, par, num, ann, rcv, bod, mc, ml, mb, cd, cb, ce, org, co, cr, fn, fe, fp)) → (∀ post : Int32 → SY → Prop, post (nI c) (nI NC, nI TC, nI tc, nI nc, fail, nI (q + 1), ret, nI us, nI ob, nI F, res, tm, kY, nk, rcv, bod, ann, par, mc, ml, mb, rt, rn, cb, oe, org, co, cr, gn, ge, gd, gs) → wpY_step post (nI NC, nI TC, nI tc, nI nc, fail, nI (q + 1), ret, nI us, nI ob, nI F, res, tm, kY, nk, rcv, bod, ann, par, mc, ml, mb, rt, rn, cb, oe, org, co, cr, gn, ge, gd, gs)) →
      (∃ (c us' : Nat) (sp' : Int32) (co' cr' fp' gn' ge' gd' gs' : Nat → Int32), 1 ≤ c ∧ c ≤ 5 ∧ us' ≤ F ∧
      (∀ post : Int32 → SX → Prop, post (nI c) (nI NC, nI TC, nI tc, nI nc, fail, res, nI F, nI us', nI ob, nI (q + 1), val, tm, mk, kd, par, num, ann, rcv, bod, mc, ml, mb, cd, cb, ce, org, co', cr', fn, fe, fp') → wpX_advance post (nI NC, nI TC, nI tc, nI nc, fail, res, nI F, nI us, nI ob, nI (q + 1), val, tm, mk, kd, par, num, ann, rcv, bod, mc, ml, mb, cd, cb, ce, org, co, cr, fn, fe, fp)) ∧
      (∀ (post : Int32 → SY → Prop) (g s : Nat), s + 2 ≤ 65536 → post (nI c) (nI NC, nI TC, nI tc, nI nc, fail, sp', ret, nI us', nI ob, nI F, res, tm, kY, nk, rcv, bod, ann, par, mc, ml, mb, rt, rn, cb, oe, org, co', cr', gn', ge', gd', gs') → wY_run_84 post (g + 3) (-1) (nI s) (nI NC) (nI TC) (nI tc) (nI nc) fail (nI (q + 1)) ret (nI us) (nI ob) (nI F) res tm kY nk rcv bod ann par mc ml mb rt rn cb oe org co cr gn ge gd gs)) := fun c c1 c2 hX hY =>
    ⟨c, us, nI (q + 1), co, cr, fp, gn, ge, gd, gs, c1, c2, m1, hX, fun post g s hs h => oc_yrs (by omega) (by omega) (hY _ (oc_yre (by omega) h))⟩
  have par1 : ∀ c, c < n → par c = nI n → ¬ (kd n = 1 ∨ bod n = nI c) → c < nc ∧ oc_li par r c = true ∧ oc_dp par kd bod r c = oc_dp par kd bod r n := fun c c1 c2 c3 => by
    obtain ⟨k1, k2, k3⟩ := oc_kid (r := r) hc N w1 w2 c1 c2
    exact ⟨by omega, k1, k3 c3⟩
  -- a receiver is entered
  have recv : ∀ a, a < n → rcv n = nI a → par a = nI n → ¬ (kd n = 1 ∨ bod n = nI a) → (kd n = 2 ∨ kd n = 3) → fp q = 0 →
      (∃ (us' ob' fc' : Nat) (val' ret' : Int32) (cb' ce' oe' org' co' cr' fn' fe' fp' gn' ge' gd' gs' : Nat → Int32), oc_MM nc r F par kd bod us' ob' fc' val' ret' cb' ce' oe' co' cr' fn' fe' fp' gn' ge' gd' gs' ∧ oc_Ph F us' fc' fn' fp' < oc_Ph F us (q + 1) fn fp ∧
      (∀ post : Int32 → SX → Prop, post 0 (nI NC, nI TC, nI tc, nI nc, fail, res, nI F, nI us', nI ob', nI fc', val', tm, mk, kd, par, num, ann, rcv, bod, mc, ml, mb, cd, cb', ce', org', co', cr', fn', fe', fp') → wpX_advance post (nI NC, nI TC, nI tc, nI nc, fail, res, nI F, nI us, nI ob, nI (q + 1), val, tm, mk, kd, par, num, ann, rcv, bod, mc, ml, mb, cd, cb, ce, org, co, cr, fn, fe, fp)) ∧
      (∀ post : Int32 → SY → Prop, post (-1) (nI NC, nI TC, nI tc, nI nc, fail, nI fc', ret', nI us', nI ob', nI F, res, tm, kY, nk, rcv, bod, ann, par, mc, ml, mb, rt, rn, cb', oe', org', co', cr', gn', ge', gd', gs') → wpY_step post (nI NC, nI TC, nI tc, nI nc, fail, nI (q + 1), ret, nI us, nI ob, nI F, res, tm, kY, nk, rcv, bod, ann, par, mc, ml, mb, rt, rn, cb, oe, org, co, cr, gn, ge, gd, gs))) ∨
      (∃ (c us' : Nat) (sp' : Int32) (co' cr' fp' gn' ge' gd' gs' : Nat → Int32), 1 ≤ c ∧ c ≤ 5 ∧ us' ≤ F ∧
      (∀ post : Int32 → SX → Prop, post (nI c) (nI NC, nI TC, nI tc, nI nc, fail, res, nI F, nI us', nI ob, nI (q + 1), val, tm, mk, kd, par, num, ann, rcv, bod, mc, ml, mb, cd, cb, ce, org, co', cr', fn, fe, fp') → wpX_advance post (nI NC, nI TC, nI tc, nI nc, fail, res, nI F, nI us, nI ob, nI (q + 1), val, tm, mk, kd, par, num, ann, rcv, bod, mc, ml, mb, cd, cb, ce, org, co, cr, fn, fe, fp)) ∧
      (∀ (post : Int32 → SY → Prop) (g s : Nat), s + 2 ≤ 65536 → post (nI c) (nI NC, nI TC, nI tc, nI nc, fail, sp', ret, nI us', nI ob, nI F, res, tm, kY, nk, rcv, bod, ann, par, mc, ml, mb, rt, rn, cb, oe, org, co', cr', gn', ge', gd', gs') → wY_run_84 post (g + 3) (-1) (nI s) (nI NC) (nI TC) (nI tc) (nI nc) fail (nI (q + 1)) ret (nI us) (nI ob) (nI F) res tm kY nk rcv bod ann par mc ml mb rt rn cb oe org co cr gn ge gd gs)) := by
    intro a a1 a2 a3 a4 a5 a6
    obtain ⟨p1, p2, p3⟩ := par1 a a1 a3 a4
    have y1 : ¬ kY n = 1 := by
      rcases kk with ⟨x, y⟩ | ⟨x, y⟩ | ⟨x, y⟩ | ⟨x, y⟩ <;> rcases a5 with z | z <;> first | (rw [x] at z; exact absurd z (by decide)) | (rw [y]; decide)
    have y2 : ¬ kY n = 2 := by
      rcases kk with ⟨x, y⟩ | ⟨x, y⟩ | ⟨x, y⟩ | ⟨x, y⟩ <;> rcases a5 with z | z <;> first | (rw [x] at z; exact absurd z (by decide)) | (rw [y]; decide)
    have hX : ∀ post : Int32 → SX → Prop, (q + 1 < 48 → post 0 (nI NC, nI TC, nI tc, nI nc, fail, res, nI F, nI us, nI ob, nI (q + 2), val, tm, mk, kd, par, num, ann, rcv, bod, mc, ml, mb, cd, cb, ce, org, co, cr, upd fn (q + 1) (nI a), upd fe (q + 1) (fe q), upd (upd fp q 1) (q + 1) 0)) → (¬ q + 1 < 48 → post 4 (nI NC, nI TC, nI tc, nI nc, fail, res, nI F, nI us, nI ob, nI (q + 1), val, tm, mk, kd, par, num, ann, rcv, bod, mc, ml, mb, cd, cb, ce, org, co, cr, fn, fe, upd fp q 1)) → wpX_advance post (nI NC, nI TC, nI tc, nI nc, fail, res, nI F, nI us, nI ob, nI (q + 1), val, tm, mk, kd, par, num, ann, rcv, bod, mc, ml, mb, cd, cb, ce, org, co, cr, fn, fe, fp) := fun post h1 h0 => by
      rw [← a2] at h1
      have g := oc_xs0 (e := fe q) hq hn32 a6 h1 h0
      rcases a5 with z | z
      · exact oc_xa2 hq hn32 w3 z g.1
      · exact oc_xa3 hq hn32 w3 z g.2
    have hY : ∀ post : Int32 → SY → Prop, post (-1) (nI NC, nI TC, nI tc, nI nc, fail, nI (q + 2), ret, nI us, nI ob, nI F, res, tm, kY, nk, rcv, bod, ann, par, mc, ml, mb, rt, rn, cb, oe, org, co, cr, upd gn (q + 1) (nI a), upd ge (q + 1) (fe q), upd gd (q + 1) (nI (q + 2)), upd (upd gs q 1) (q + 1) 0) → wpY_step post (nI NC, nI TC, nI tc, nI nc, fail, nI (q + 1), ret, nI us, nI ob, nI F, res, tm, kY, nk, rcv, bod, ann, par, mc, ml, mb, rt, rn, cb, oe, org, co, cr, gn, ge, gd, gs) := fun post h => by
      refine oc_yp hq hn32 w4 (by rw [w8]; exact a6) w7 y1 y2 ?_
      rw [a2, w6]
      exact h
    by_cases z : q + 1 < 48
    · left
      refine ⟨us, ob, q + 2, val, ret, cb, ce, oe, org, co, cr, upd fn (q + 1) (nI a), upd fe (q + 1) (fe q), upd (upd fp q 1) (q + 1) 0, upd gn (q + 1) (nI a), upd ge (q + 1) (fe q), upd gd (q + 1) (nI (q + 2)), upd (upd gs q 1) (q + 1) 0, ?_, ?_, fun post h => hX post (fun _ => h) (fun w => absurd z w), hY⟩
      · exact oc_MM_push M0 hc z (Nat.le_refl _) m1 (fun _ _ => ⟨rfl, rfl⟩) w1 w3 (Or.inl ⟨rfl, a5⟩) p1 p2 (by rw [p3]; exact w5)
      · refine oc_Ph_push (by omega) ?_
        have e : oc_wt fn fp q = 3 * n + 3 := by
          unfold oc_wt
          rw [if_pos a6, w3, nI_clamp (by omega)]
        rw [e, if_neg (by decide), if_pos rfl]
        omega
    · right
      refine ⟨4, us, nI (q + 2), co, cr, upd fp q 1, upd gn (q + 1) (nI a), upd ge (q + 1) (fe q), upd gd (q + 1) (nI (q + 2)), upd (upd gs q 1) (q + 1) 0, by omega, by omega, m1, fun post h => hX post (fun w => absurd w z) (fun _ => h), fun post g s hs h => ?_⟩
      refine oc_yrs (by omega) (by omega) (hY _ ?_)
      refine oc_yrs (by omega) (by omega) (oc_ysd (q := q + 1) (by omega) (by omega) pk_us pk_us (oc_yre (c := 4) (by omega) h))
  obtain ⟨-, ⟨k1, -, k, hk, ek⟩ | ⟨k1, k2, -, m, x4, x5, x6, x7⟩ | ⟨k1, k2, ⟨l, hl, el⟩, a, x4, x5, x6⟩ | ⟨k1, ⟨l, hl, el⟩, -, a, b, x4, x5, x6, x7, x8, x9, x10⟩⟩ := hNn
  · -- a variable
    have f0 : fp q = 0 := by
      rcases w9 with ⟨y, -⟩ | ⟨-, y | y⟩ | ⟨-, y⟩
      · exact y
      · rw [k1] at y; exact absurd y (by decide)
      · rw [k1] at y; exact absurd y (by decide)
      · rw [k1] at y; exact absurd y (by decide)
    have ky : kY n = 1 := by rw [(hK n w1).1, k1]; decide
    have nk' : nk n = nI k := by rw [(hK n w1).2 (by rw [k1]; decide), ek]
    have hb := C n w1 k1
    rw [ek, nI_clamp (by omega)] at hb
    have hd := oc_bo_dp (oc_Nd_Pa N) hc n w1 k w2 hb
    have hE : oc_En co cr us ob (k + 1) (fe q) := by
      have g : ∀ d d' e, d ≤ d' → oc_En co cr us ob d' e → oc_En co cr us ob d e := by
        intro d
        induction d with
        | zero => intro d' e _ _; trivial
        | succ d ih =>
          intro d' e hdd hh
          obtain ⟨d'', rfl⟩ : ∃ d'', d' = d'' + 1 := ⟨d' - 1, by omega⟩
          obtain ⟨c, o, z1, z2, z3, z4, z5⟩ := hh
          exact ⟨c, o, z1, z2, z3, z4, ih d'' _ (by omega) z5⟩
      exact g _ _ _ (by omega) w5
    left
    obtain ⟨o, o1, o2, o3⟩ := oc_look (NC := NC) (TC := TC) (tc := tc) (nc := nc) (fail := fail) (res := res) (fl := nI F) (val := val) (sp := nI (q + 1)) (ret := ret) (fu := nI F) (tm := tm) (mk := mk) (kd := kd) (par := par) (ann := ann) (rcv := rcv) (bod := bod) (mc := mc) (ml := ml) (mb := mb) (cd := cd) (cb := cb) (ce := ce) (org := org) (fn := fn) (fe := fe) (fp := fp) (kY := kY) (nk := nk) (rt := rt) (rn := rn) (oe := oe) (gn := gn) (ge := ge) (gd := gd) (gs := gs) (q := q) (by omega) hn32 hk ek k 0 (fe q) (by omega) hE
    refine ⟨us, ob, q, nI o, nI o, cb, ce, oe, org, co, cr, fn, fe, fp, gn, ge, gd, gs, oc_MM_pop M0 (Nat.le_refl _) m2 mO o1, oc_Ph_pop, fun post h => ?_, fun post h => ?_⟩
    · exact oc_xa0 hq hn32 w3 k1 ⟨k + 1, o2 post h⟩
    · exact oc_yv hq hn32 w4 (by rw [w8]; exact f0) w7 ky nk' (by omega) (fun post' h' => ⟨k + 1, by rw [w6]; exact o3 post' h'⟩) h
  · -- a literal
    have f0 : fp q = 0 := by
      rcases w9 with ⟨y, -⟩ | ⟨-, y | y⟩ | ⟨-, y⟩
      · exact y
      · rw [k1] at y; exact absurd y (by decide)
      · rw [k1] at y; exact absurd y (by decide)
      · rw [k1] at y; exact absurd y (by decide)
    have ky : kY n = 2 := by rw [(hK n w1).1, k1]; decide
    have hl : ∀ i, i < m → ∃ l, l < 16 ∧ ml (n * 8 + i) = nI l := fun i hi => by
      obtain ⟨l, b, y1, y2, -⟩ := x6 i hi
      exact ⟨l, y1, y2⟩
    by_cases z : ob = 32
    · right
      refine stop 5 (by omega) (by omega) (fun post h => oc_xa1 hq hn32 w3 k1 ?_) (fun post h => oc_yo hq hn32 w4 (by rw [w8]; exact f0) w7 ky (fun _ => h) (fun y => absurd z y) m2)
      unfold wpX_advanceObject
      exact br_f (nI_nlt (b := 32) (by omega) (by omega)) h
    · left
      refine ⟨us, ob + 1, q, nI ob, nI ob, oc_mt (oc_fi cb ob (-1) 16) ml mb ob n m, oc_mt ce ml (fun _ => fe q) ob n m, oc_mt (oc_fi oe ob (-1) 16) ml (fun _ => fe q) ob n m, upd org ob (ann n), co, cr, fn, fe, fp, gn, ge, gd, gs, oc_MM_pop M0 (by omega) (by omega) (oc_Ob_obj hc N w1 w2 k1 x5 x4 w5 mO) (by omega), oc_Ph_pop, fun post h => ?_, fun post h => ?_⟩
      · exact oc_xa1 hq hn32 w3 k1 (oc_xob hn32 (by omega) x5 x4 hl h)
      · refine oc_yo hq hn32 w4 (by rw [w8]; exact f0) w7 ky (fun y => absurd y z) (fun _ => oc_yob1 hn32 (by omega) x5 x4 hl ?_) m2
        rw [w6]
        exact h
  · -- an invocation
    have ky : kY n = 3 := by rw [(hK n w1).1, k1]; decide
    have nk' : nk n = nI l := by rw [(hK n w1).2 (by rw [k1]; decide), el]
    rcases w9 with ⟨f0, -⟩ | ⟨f1, -⟩ | ⟨f2, -⟩
    · refine recv a x4 x5 x6 (fun w => ?_) (Or.inl k1) f0
      rcases w with w | w
      · rw [k1] at w; exact absurd w (by decide)
      · rw [k2] at w; exact absurd w (oc_m1' (by omega))
    · obtain ⟨v, v1, rfl, rfl⟩ : ∃ o, o < ob ∧ val = nI o ∧ ret = nI o := by
        rcases mV with ⟨q', e1, e2⟩ | y
        · have : q' = q := by omega
          subst this
          rw [f1] at e2; exact absurd e2 (by decide)
        · exact y
      rcases mO v l v1 hl with z | ⟨b, d, z1, z2, z3, z4, z5, z6⟩
      · right
        refine stop 1 (by omega) (by omega) (fun post h => oc_xa2 hq hn32 w3 k1 ?_) (fun post h => ?_)
        · exact oc_xs1 hF m1 hq hn32 (by omega) hl f1 el (fun _ => h) (fun y => absurd z y) (fun y => absurd z y) (fun y => absurd z y)
        · exact oc_y1 hq hn32 (by omega) hl w4 (by rw [w8]; exact f1) w7 nk' (fun _ => oc_y1s hF m1 hq hn32 (by omega) hl ky (fun _ => h) (fun y => absurd rfl y) (fun y => absurd rfl y)) (fun y => absurd z y)
      have nz : ¬ cb (v * 16 + l) = -1 := by rw [z3]; exact oc_m1 (by omega)
      by_cases y : us = F
      · right
        refine stop 3 (by omega) (by omega) (fun post h => oc_xa2 hq hn32 w3 k1 ?_) (fun post h => ?_)
        · exact oc_xs1 hF m1 hq hn32 (by omega) hl f1 el (fun y' => absurd y' nz) (fun _ _ => h) (fun _ y' => by omega) (fun _ y' => by omega)
        · exact oc_y1 hq hn32 (by omega) hl w4 (by rw [w8]; exact f1) w7 nk' (fun y' => absurd y' nz) (fun _ => oc_y1s hF m1 hq hn32 (by omega) hl ky (fun y' => absurd y' oc_10) (fun _ _ => h) (fun _ y' => by omega))
      have usF : us < F := by omega
      have hX : ∀ post : Int32 → SX → Prop, (q + 1 < 48 → post 0 (nI NC, nI TC, nI tc, nI nc, fail, res, nI F, nI (us + 1), nI ob, nI (q + 2), nI v, tm, mk, kd, par, num, ann, rcv, bod, mc, ml, mb, cd, cb, ce, org, upd co us (nI v), upd cr us (ce (v * 16 + l)), upd fn (q + 1) (nI b), upd fe (q + 1) (nI us), upd (upd fp q 2) (q + 1) 0)) →
          (¬ q + 1 < 48 → post 4 (nI NC, nI TC, nI tc, nI nc, fail, res, nI F, nI (us + 1), nI ob, nI (q + 1), nI v, tm, mk, kd, par, num, ann, rcv, bod, mc, ml, mb, cd, cb, ce, org, upd co us (nI v), upd cr us (ce (v * 16 + l)), fn, fe, upd fp q 2)) → wpX_advance post (nI NC, nI TC, nI tc, nI nc, fail, res, nI F, nI us, nI ob, nI (q + 1), nI v, tm, mk, kd, par, num, ann, rcv, bod, mc, ml, mb, cd, cb, ce, org, co, cr, fn, fe, fp) := fun post h1 h0 => by
        rw [← z3] at h1
        exact oc_xa2 hq hn32 w3 k1 (oc_xs1 hF m1 hq hn32 (by omega) hl f1 el (fun y' => absurd y' nz) (fun _ y' => absurd y' y) (fun _ _ => h1) (fun _ _ => h0))
      have hY : ∀ post : Int32 → SY → Prop, post (-1) (nI NC, nI TC, nI tc, nI nc, fail, nI (q + 2), nI v, nI (us + 1), nI ob, nI F, res, tm, kY, nk, rcv, bod, ann, par, mc, ml, mb, rt, rn, cb, oe, org, upd co us (nI v), upd cr us (ce (v * 16 + l)), upd gn (q + 1) (nI b), upd ge (q + 1) (nI us), upd gd (q + 1) (nI (q + 2)), upd (upd gs q 2) (q + 1) 0) → wpY_step post (nI NC, nI TC, nI tc, nI nc, fail, nI (q + 1), nI v, nI us, nI ob, nI F, res, tm, kY, nk, rcv, bod, ann, par, mc, ml, mb, rt, rn, cb, oe, org, co, cr, gn, ge, gd, gs) := fun post h => by
        rw [← z3, ← z6] at h
        exact oc_y1 hq hn32 (by omega) hl w4 (by rw [w8]; exact f1) w7 nk' (fun y' => absurd y' nz) (fun _ => oc_y1s hF m1 hq hn32 (by omega) hl ky (fun y' => absurd y' oc_10) (fun _ y' => absurd y' y) (fun _ _ => h))
      by_cases z' : q + 1 < 48
      · left
        have agree : ∀ c, c < us → upd co us (nI v) c = co c ∧ upd cr us (ce (v * 16 + l)) c = cr c := fun c hc' => ⟨pk_un (by omega), pk_un (by omega)⟩
        refine ⟨us + 1, ob, q + 2, nI v, nI v, cb, ce, oe, org, upd co us (nI v), upd cr us (ce (v * 16 + l)), upd fn (q + 1) (nI b), upd fe (q + 1) (nI us), upd (upd fp q 2) (q + 1) 0, upd gn (q + 1) (nI b), upd ge (q + 1) (nI us), upd gd (q + 1) (nI (q + 2)), upd (upd gs q 2) (q + 1) 0, ?_, ?_, fun post h => hX post (fun _ => h) (fun w => absurd z' w), hY⟩
        · refine oc_MM_push M0 hc z' (by omega) (by omega) agree w1 w3 (Or.inr ⟨rfl, k1⟩) z1 z2 ?_
          rw [z4]
          refine ⟨us, v, by omega, rfl, v1, pk_us, ?_⟩
          rw [pk_us]
          exact oc_En_mo (by omega) (Nat.le_refl _) agree _ _ z5
        · refine oc_Ph_push (by omega) ?_
          have e : oc_wt fn fp q = 2 := by
            unfold oc_wt
            rw [if_neg (by rw [f1]; decide), if_pos f1]
          rw [e, if_neg (by decide), if_neg (by decide)]
          omega
      · right
        refine ⟨4, us + 1, nI (q + 2), upd co us (nI v), upd cr us (ce (v * 16 + l)), upd fp q 2, upd gn (q + 1) (nI b), upd ge (q + 1) (nI us), upd gd (q + 1) (nI (q + 2)), upd (upd gs q 2) (q + 1) 0, by omega, by omega, by omega, fun post h => hX post (fun w => absurd w z') (fun _ => h), fun post g s hs h => ?_⟩
        refine oc_yrs (by omega) (by omega) (hY _ ?_)
        refine oc_yrs (by omega) (by omega) (oc_ysd (q := q + 1) (by omega) (by omega) pk_us pk_us (oc_yre (c := 4) (by omega) h))
    · obtain ⟨v, v1, rfl, rfl⟩ : ∃ o, o < ob ∧ val = nI o ∧ ret = nI o := by
        rcases mV with ⟨q', e1, e2⟩ | y
        · have : q' = q := by omega
          subst this
          rw [f2] at e2; exact absurd e2 (by decide)
        · exact y
      left
      exact ⟨us, ob, q, nI v, nI v, cb, ce, oe, org, co, cr, fn, fe, fp, gn, ge, gd, gs, oc_MM_pop M0 (Nat.le_refl _) m2 mO v1, oc_Ph_pop, fun post h => oc_xa2 hq hn32 w3 k1 (oc_xs2 hq f2 h), fun post h => oc_ys2 (by omega) (by rw [w8]; exact f2) h⟩
  · -- an update
    have ky : ¬ kY n = 3 := by rw [(hK n w1).1, k1]; decide
    have nk' : nk n = nI l := by rw [(hK n w1).2 (by rw [k1]; decide), el]
    rcases w9 with ⟨f0, -⟩ | ⟨f1, -⟩ | ⟨f2, y⟩
    · refine recv a x4 x7 x9 (fun w => ?_) (Or.inr k1) f0
      rcases w with w | w
      · rw [k1] at w; exact absurd w (by decide)
      · rw [x8, nI_eq (by omega) (by omega)] at w; exact x6 w.symm
    · obtain ⟨v, v1, rfl, rfl⟩ : ∃ o, o < ob ∧ val = nI o ∧ ret = nI o := by
        rcases mV with ⟨q', e1, e2⟩ | y
        · have : q' = q := by omega
          subst this
          rw [f1] at e2; exact absurd e2 (by decide)
        · exact y
      by_cases z : cb (v * 16 + l) = -1
      · right
        refine stop 2 (by omega) (by omega) (fun post h => oc_xa3 hq hn32 w3 k1 ?_) (fun post h => ?_)
        · exact oc_xu1 m2 hq hn32 v1 hl f1 el (fun _ => h) (fun y => absurd z y) (fun y => absurd z y)
        · exact oc_y1 hq hn32 (by omega) hl w4 (by rw [w8]; exact f1) w7 nk' (fun _ => oc_y1u m2 hq hn32 v1 hl ky (fun _ => h) (fun y => absurd rfl y) (fun y => absurd rfl y)) (fun y => absurd z y)
      by_cases y : ob = 32
      · right
        refine stop 5 (by omega) (by omega) (fun post h => oc_xa3 hq hn32 w3 k1 ?_) (fun post h => ?_)
        · exact oc_xu1 m2 hq hn32 v1 hl f1 el (fun y' => absurd y' z) (fun _ _ => h) (fun _ y' => by omega)
        · exact oc_y1 hq hn32 (by omega) hl w4 (by rw [w8]; exact f1) w7 nk' (fun y' => absurd y' z) (fun _ => oc_y1u m2 hq hn32 v1 hl ky (fun y' => absurd y' oc_10) (fun _ _ => h) (fun _ y' => by omega))
      left
      refine ⟨us, ob + 1, q, nI ob, nI ob, upd (oc_tc cb v ob 16) (ob * 16 + l) (nI b), upd (oc_tc ce v ob 16) (ob * 16 + l) (fe q), upd (oc_tc oe v ob 16) (ob * 16 + l) (fe q), upd org ob (ann n), co, cr, fn, fe, fp, gn, ge, gd, gs, oc_MM_pop M0 (by omega) (by omega) (oc_Ob_upd hc N w1 w2 x5 x8 x10 v1 w5 mO) (by omega), oc_Ph_pop, fun post h => ?_, fun post h => ?_⟩
      · rw [← x8] at h
        exact oc_xa3 hq hn32 w3 k1 (oc_xu1 m2 hq hn32 v1 hl f1 el (fun y' => absurd y' z) (fun _ y' => absurd y' y) (fun _ _ => h))
      · rw [← x8, ← w6] at h
        exact oc_y1 hq hn32 (by omega) hl w4 (by rw [w8]; exact f1) w7 nk' (fun y' => absurd y' z) (fun _ => oc_y1u m2 hq hn32 v1 hl ky (fun y' => absurd y' oc_10) (fun _ y' => absurd y' y) (fun _ _ => h))
    · rw [k1] at y; exact absurd y (by decide)
