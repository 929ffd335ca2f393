/-! X's machine alone -/
theorem oc_xlook {NC TC tc nc us ob : Nat} {fail res fl val : Int32} {tm mk kd par num ann rcv bod mc ml mb cd cb ce org co cr fn fe fp : Nat → Int32} {q n k o : Nat} (hus : us ≤ 128) (hn : n < 32) (hk : k < 16) (ek : num n = nI k) {post : Int32 → St2 → Prop} (h : post 0 (nI NC, nI TC, nI tc, nI nc, fail, res, fl, nI us, nI ob, nI q, nI o, tm, mk, kd, par, num, ann, rcv, bod, mc, ml, mb, cd, cb, ce, org, co, cr, fn, fe, fp)) :
    ∀ d i e, i + d = k → oc_CH co cr us ob o d e → wX_advanceVariable_5 post (nI n) (nI NC) (nI TC) (nI tc) (nI nc) fail res fl (nI us) (nI ob) (nI (q + 1)) val tm mk kd par num ann rcv bod mc ml mb cd cb ce org co cr fn fe fp (d + 1) e (nI i) := by
  have vn : vp_in (nI n) 32 := vp_in_nI hn (by omega)
  have cn : (nI n).toNatClampNeg = n := nI_clamp (by omega)
  intro d
  induction d with
  | zero =>
    intro i e hi hE
    obtain ⟨c, y1, rfl, y3, y4⟩ := hE
    refine ⟨vn, ?_⟩
    rw [cn, ek]
    refine br_t (nI_le (by omega) (by omega)) ⟨vp_in_nI (by omega) (by omega), ?_⟩
    rw [nI_clamp (n := c) (by omega), y4]
    exact oc_xlv h
  | succ d ih =>
    intro i e hi hE
    obtain ⟨c, y1, rfl, y5⟩ := hE
    refine ⟨vn, ?_⟩
    rw [cn, ek]
    refine br_f (nI_ge (by omega) (by omega)) ⟨vp_in_nI (by omega) (by omega), ?_⟩
    rw [nI_clamp (n := c) (by omega)]
    exact nm_e (nm_r (nI_1 i) (ih (i + 1) (cr c) (by omega) y5))
theorem oc_En_CH {co cr : Nat → Int32} {us ob : Nat} : ∀ k d e, k < d → oc_En co cr us ob d e → ∃ o, o < ob ∧ oc_CH co cr us ob o k e
  | 0, 0, _, h, _ => absurd h (Nat.not_lt_zero _)
  | 0, d + 1, e, _, ⟨c, o, x1, x2, x3, x4, _⟩ => ⟨o, x3, c, x1, x2, x3, x4⟩
  | k + 1, 0, _, h, _ => absurd h (Nat.not_lt_zero _)
  | k + 1, d + 1, e, h, ⟨c, o, x1, x2, _, _, x5⟩ => by
    obtain ⟨o', y1, y2⟩ := oc_En_CH k d (cr c) (by omega) x5
    exact ⟨o', y1, c, x1, x2, y2⟩
/-- a step of any term without free variables -/
theorem oc_xstep {NC TC tc nc us ob : Nat} {fail res val : Int32} {tm mk kd par num ann rcv bod mc ml mb cd cb ce org co cr fn fe fp : Nat → Int32} {ret : Int32} {oe gn ge gd gs : Nat → Int32} {r F q : Nat} (hc : nc ≤ 32) (htc : tc ≤ 32) (hF : F ≤ 128) (hr : r < nc) (N : oc_Nd nc tc kd par num ann rcv bod mc ml mb) (C : oc_Cl nc par kd num bod r)
    (M : oc_MM nc r F par kd bod us ob (q + 1) val ret cb ce oe co cr fn fe fp gn ge gd gs) :
    (∃ (us' ob' fc' : Nat) (val' ret' : Int32) (cb' ce' oe' org' co' cr' fn' fe' fp' gn' ge' gd' gs' : Nat → Int32), oc_MM nc r F par kd bod us' ob' fc' val' ret' cb' ce' oe' co' cr' fn' fe' fp' gn' ge' gd' gs' ∧ oc_Ph F us' fc' fn' fp' < oc_Ph F us (q + 1) fn fp ∧
      (∀ post : Int32 → St2 → Prop, post 0 (nI NC, nI TC, nI tc, nI nc, fail, res, nI F, nI us', nI ob', nI fc', val', tm, mk, kd, par, num, ann, rcv, bod, mc, ml, mb, cd, cb', ce', org', co', cr', fn', fe', fp') → wpX_advance post (nI NC, nI TC, nI tc, nI nc, fail, res, nI F, nI us, nI ob, nI (q + 1), val, tm, mk, kd, par, num, ann, rcv, bod, mc, ml, mb, cd, cb, ce, org, co, cr, fn, fe, fp))) ∨
    (∃ (c us' : Nat) (co' cr' fp' : Nat → Int32), 1 ≤ c ∧ c ≤ 5 ∧ us' ≤ F ∧
      (∀ post : Int32 → St2 → Prop, post (nI c) (nI NC, nI TC, nI tc, nI nc, fail, res, nI F, nI us', nI ob, nI (q + 1), val, tm, mk, kd, par, num, ann, rcv, bod, mc, ml, mb, cd, cb, ce, org, co', cr', fn, fe, fp') → wpX_advance post (nI NC, nI TC, nI tc, nI nc, fail, res, nI F, nI us, nI ob, nI (q + 1), val, tm, mk, kd, par, num, ann, rcv, bod, mc, ml, mb, cd, cb, ce, org, co, cr, fn, fe, fp))) := by
  have M0 := M
  obtain ⟨m1, m2, m3, mO, mF, mV⟩ := M
  obtain ⟨n, w1, w2, w3, w4, w5, w6, w7, w8, w9⟩ := mF q (by omega)
  have hq : q < 48 := by omega
  have hn32 : n < 32 := by omega
  have recv : ∀ a, a < n → rcv n = nI a → par a = nI n → ¬ (kd n = 1 ∨ bod n = nI a) → (kd n = 2 ∨ kd n = 3) → fp q = 0 →
      (∃ (us' ob' fc' : Nat) (val' ret' : Int32) (cb' ce' oe' org' co' cr' fn' fe' fp' gn' ge' gd' gs' : Nat → Int32), oc_MM nc r F par kd bod us' ob' fc' val' ret' cb' ce' oe' co' cr' fn' fe' fp' gn' ge' gd' gs' ∧ oc_Ph F us' fc' fn' fp' < oc_Ph F us (q + 1) fn fp ∧
      (∀ post : Int32 → St2 → Prop, post 0 (nI NC, nI TC, nI tc, nI nc, fail, res, nI F, nI us', nI ob', nI fc', val', tm, mk, kd, par, num, ann, rcv, bod, mc, ml, mb, cd, cb', ce', org', co', cr', fn', fe', fp') → wpX_advance post (nI NC, nI TC, nI tc, nI nc, fail, res, nI F, nI us, nI ob, nI (q + 1), val, tm, mk, kd, par, num, ann, rcv, bod, mc, ml, mb, cd, cb, ce, org, co, cr, fn, fe, fp))) ∨
      (∃ (c us' : Nat) (co' cr' fp' : Nat → Int32), 1 ≤ c ∧ c ≤ 5 ∧ us' ≤ F ∧
      (∀ post : Int32 → St2 → Prop, post (nI c) (nI NC, nI TC, nI tc, nI nc, fail, res, nI F, nI us', nI ob, nI (q + 1), val, tm, mk, kd, par, num, ann, rcv, bod, mc, ml, mb, cd, cb, ce, org, co', cr', fn, fe, fp') → wpX_advance post (nI NC, nI TC, nI tc, nI nc, fail, res, nI F, nI us, nI ob, nI (q + 1), val, tm, mk, kd, par, num, ann, rcv, bod, mc, ml, mb, cd, cb, ce, org, co, cr, fn, fe, fp))) := by
    intro a a1 a2 a3 a4 a5 a6
    obtain ⟨p1, p2, p3⟩ := oc_kid (r := r) hc N w1 w2 a1 a3
    have hX : ∀ post : Int32 → St2 → Prop, (q + 1 < 48 → post 0 (nI NC, nI TC, nI tc, nI nc, fail, res, nI F, nI us, nI ob, nI (q + 2), val, tm, mk, kd, par, num, ann, rcv, bod, mc, ml, mb, cd, cb, ce, org, co, cr, upd fn (q + 1) (nI a), upd fe (q + 1) (fe q), upd (upd fp q 1) (q + 1) 0)) → (¬ q + 1 < 48 → post 4 (nI NC, nI TC, nI tc, nI nc, fail, res, nI F, nI us, nI ob, nI (q + 1), val, tm, mk, kd, par, num, ann, rcv, bod, mc, ml, mb, cd, cb, ce, org, co, cr, fn, fe, upd fp q 1)) → wpX_advance post (nI NC, nI TC, nI tc, nI nc, fail, res, nI F, nI us, nI ob, nI (q + 1), val, tm, mk, kd, par, num, ann, rcv, bod, mc, ml, mb, cd, cb, ce, org, co, cr, fn, fe, fp) := fun post h1 h0 => by
      rw [← a2] at h1
      have g := oc_xs0 (e := fe q) hq hn32 a6 h1 h0
      rcases a5 with z | z
      · exact oc_xa2 hq hn32 w3 z g.1
      · exact oc_xa3 hq hn32 w3 z g.2
    by_cases z : q + 1 < 48
    · left
      refine ⟨us, ob, q + 2, val, ret, cb, ce, oe, org, co, cr, upd fn (q + 1) (nI a), upd fe (q + 1) (fe q), upd (upd fp q 1) (q + 1) 0, upd gn (q + 1) (nI a), upd ge (q + 1) (fe q), upd gd (q + 1) (nI (q + 2)), upd (upd gs q 1) (q + 1) 0, ?_, ?_, fun post h => hX post (fun _ => h) (fun w => absurd z w)⟩
      · exact oc_MM_push M0 hc z (Nat.le_refl _) m1 (fun _ _ => ⟨rfl, rfl⟩) w1 w3 (Or.inl ⟨rfl, a5⟩) (by omega) p1 (by rw [p3 a4]; exact w5)
      · refine oc_Ph_push (by omega) ?_
        have e : oc_wt fn fp q = 3 * n + 3 := by
          unfold oc_wt
          rw [if_pos a6, w3, nI_clamp (by omega)]
        rw [e, if_neg (by decide), if_pos rfl]
        omega
    · right
      exact ⟨4, us, co, cr, upd fp q 1, by omega, by omega, m1, fun post h => hX post (fun w => absurd w z) (fun _ => h)⟩
  obtain ⟨-, ⟨k1, -, k, hk, ek⟩ | ⟨k1, k2, -, m, x4, x5, x6, x7⟩ | ⟨k1, k2, ⟨l, hl, el⟩, a, x4, x5, x6⟩ | ⟨k1, ⟨l, hl, el⟩, -, a, b, x4, x5, x6, x7, x8, x9, x10⟩⟩ := N n w1
  · have hb := C n w1 k1
    rw [ek, nI_clamp (by omega)] at hb
    have hd := oc_bo_dp (oc_Nd_Pa N) hc n w1 k w2 hb
    obtain ⟨o, o1, o2⟩ := oc_En_CH k _ _ hd w5
    left
    exact ⟨us, ob, q, nI o, nI o, cb, ce, oe, org, co, cr, fn, fe, fp, gn, ge, gd, gs, oc_MM_pop M0 (Nat.le_refl _) m2 mO o1, oc_Ph_pop, fun post h => oc_xa0 hq hn32 w3 k1 ⟨k + 1, oc_xlook (by omega) hn32 hk ek h k 0 (fe q) (by omega) o2⟩⟩
  · have hl : ∀ i, i < m → ∃ l, l < 16 ∧ ml (n * 8 + i) = nI l := fun i hi => by
      obtain ⟨l, b, y1, y2, -⟩ := x6 i hi
      exact ⟨l, y1, y2⟩
    by_cases z : ob = 32
    · right
      refine ⟨5, us, co, cr, fp, by omega, by omega, m1, fun post h => oc_xa1 hq hn32 w3 k1 ?_⟩
      unfold wpX_advanceObject
      exact br_f (nI_nlt (b := 32) (by omega) (by omega)) h
    · left
      exact ⟨us, ob + 1, q, nI ob, nI ob, oc_mt (oc_fi cb ob (-1) 16) ml mb ob n m, oc_mt ce ml (fun _ => fe q) ob n m, oc_mt (oc_fi oe ob (-1) 16) ml (fun _ => fe q) ob n m, upd org ob (ann n), co, cr, fn, fe, fp, gn, ge, gd, gs, oc_MM_pop M0 (by omega) (by omega) (oc_Ob_obj hc N w1 w2 k1 x5 x4 w5 mO) (by omega), oc_Ph_pop, fun post h => oc_xa1 hq hn32 w3 k1 (oc_xob hn32 (by omega) x5 x4 hl h)⟩
  · rcases w9 with ⟨f0, -⟩ | ⟨f1, -⟩ | ⟨f2, -⟩
    · refine recv a x4 x5 x6 (fun w => ?_) (Or.inl k1) f0
      rcases w with w | w
      · rw [k1] at w; exact absurd w (by decide)
      · rw [k2] at w; exact absurd w (oc_m1' (by omega))
    · obtain ⟨v, v1, rfl, rfl⟩ : ∃ o, o < ob ∧ val = nI o ∧ ret = nI o := by
        rcases mV with ⟨q', e1, e2⟩ | y
        · have : q' = q := by omega
          subst this
          rw [f1] at e2; exact absurd e2 (by decide)
        · exact y
      rcases mO v l v1 hl with z | ⟨b, d, z1, z2, z3, z4, z5, z6⟩
      · right
        refine ⟨1, us, co, cr, fp, by omega, by omega, m1, fun post h => oc_xa2 hq hn32 w3 k1 ?_⟩
        exact oc_xs1 hF m1 hq hn32 (by omega) hl f1 el (fun _ => h) (fun y => absurd z y) (fun y => absurd z y) (fun y => absurd z y)
      have nz : ¬ cb (v * 16 + l) = -1 := by rw [z3]; exact oc_m1 (by omega)
      by_cases y : us = F
      · right
        refine ⟨3, us, co, cr, fp, by omega, by omega, m1, fun post h => oc_xa2 hq hn32 w3 k1 ?_⟩
        exact oc_xs1 hF m1 hq hn32 (by omega) hl f1 el (fun y' => absurd y' nz) (fun _ _ => h) (fun _ y' => by omega) (fun _ y' => by omega)
      have hX : ∀ post : Int32 → St2 → Prop, (q + 1 < 48 → post 0 (nI NC, nI TC, nI tc, nI nc, fail, res, nI F, nI (us + 1), nI ob, nI (q + 2), nI v, tm, mk, kd, par, num, ann, rcv, bod, mc, ml, mb, cd, cb, ce, org, upd co us (nI v), upd cr us (ce (v * 16 + l)), upd fn (q + 1) (nI b), upd fe (q + 1) (nI us), upd (upd fp q 2) (q + 1) 0)) →
          (¬ q + 1 < 48 → post 4 (nI NC, nI TC, nI tc, nI nc, fail, res, nI F, nI (us + 1), nI ob, nI (q + 1), nI v, tm, mk, kd, par, num, ann, rcv, bod, mc, ml, mb, cd, cb, ce, org, upd co us (nI v), upd cr us (ce (v * 16 + l)), fn, fe, upd fp q 2)) → wpX_advance post (nI NC, nI TC, nI tc, nI nc, fail, res, nI F, nI us, nI ob, nI (q + 1), nI v, tm, mk, kd, par, num, ann, rcv, bod, mc, ml, mb, cd, cb, ce, org, co, cr, fn, fe, fp) := fun post h1 h0 => by
        rw [← z3] at h1
        exact oc_xa2 hq hn32 w3 k1 (oc_xs1 hF m1 hq hn32 (by omega) hl f1 el (fun y' => absurd y' nz) (fun _ y' => absurd y' y) (fun _ _ => h1) (fun _ _ => h0))
      by_cases z' : q + 1 < 48
      · left
        have agree : ∀ c, c < us → upd co us (nI v) c = co c ∧ upd cr us (ce (v * 16 + l)) c = cr c := fun c hc' => ⟨pk_un (by omega), pk_un (by omega)⟩
        refine ⟨us + 1, ob, q + 2, nI v, nI v, cb, ce, oe, org, upd co us (nI v), upd cr us (ce (v * 16 + l)), upd fn (q + 1) (nI b), upd fe (q + 1) (nI us), upd (upd fp q 2) (q + 1) 0, upd gn (q + 1) (nI b), upd ge (q + 1) (nI us), upd gd (q + 1) (nI (q + 2)), upd (upd gs q 2) (q + 1) 0, ?_, ?_, fun post h => hX post (fun _ => h) (fun w => absurd z' w)⟩
        · refine oc_MM_push M0 hc z' (by omega) (by omega) agree w1 w3 (Or.inr ⟨rfl, k1⟩) z1 z2 ?_
          rw [z4]
          refine ⟨us, v, by omega, rfl, v1, pk_us, ?_⟩
          rw [pk_us]
          exact oc_En_mo (by omega) (Nat.le_refl _) agree _ _ z5
        · refine oc_Ph_push (by omega) ?_
          have e : oc_wt fn fp q = 2 := by
            unfold oc_wt
            rw [if_neg (by rw [f1]; decide), if_pos f1]
          rw [e, if_neg (by decide), if_neg (by decide)]
          omega
      · right
        exact ⟨4, us + 1, upd co us (nI v), upd cr us (ce (v * 16 + l)), upd fp q 2, by omega, by omega, by omega, fun post h => hX post (fun w => absurd w z') (fun _ => h)⟩
    · obtain ⟨v, v1, rfl, rfl⟩ : ∃ o, o < ob ∧ val = nI o ∧ ret = nI o := by
        rcases mV with ⟨q', e1, e2⟩ | y
        · have : q' = q := by omega
          subst this
          rw [f2] at e2; exact absurd e2 (by decide)
        · exact y
      left
      exact ⟨us, ob, q, nI v, nI v, cb, ce, oe, org, co, cr, fn, fe, fp, gn, ge, gd, gs, oc_MM_pop M0 (Nat.le_refl _) m2 mO v1, oc_Ph_pop, fun post h => oc_xa2 hq hn32 w3 k1 (oc_xs2 hq f2 h)⟩
  · rcases w9 with ⟨f0, -⟩ | ⟨f1, -⟩ | ⟨f2, y⟩
    · refine recv a x4 x7 x9 (fun w => ?_) (Or.inr k1) f0
      rcases w with w | w
      · rw [k1] at w; exact absurd w (by decide)
      · rw [x8, nI_eq (by omega) (by omega)] at w; exact x6 w.symm
    · obtain ⟨v, v1, rfl, rfl⟩ : ∃ o, o < ob ∧ val = nI o ∧ ret = nI o := by
        rcases mV with ⟨q', e1, e2⟩ | y
        · have : q' = q := by omega
          subst this
          rw [f1] at e2; exact absurd e2 (by decide)
        · exact y
      by_cases z : cb (v * 16 + l) = -1
      · right
        refine ⟨2, us, co, cr, fp, by omega, by omega, m1, fun post h => oc_xa3 hq hn32 w3 k1 ?_⟩
        exact oc_xu1 m2 hq hn32 v1 hl f1 el (fun _ => h) (fun y => absurd z y) (fun y => absurd z y)
      by_cases y : ob = 32
      · right
        refine ⟨5, us, co, cr, fp, by omega, by omega, m1, fun post h => oc_xa3 hq hn32 w3 k1 ?_⟩
        exact oc_xu1 m2 hq hn32 v1 hl f1 el (fun y' => absurd y' z) (fun _ _ => h) (fun _ y' => by omega)
      left
      refine ⟨us, ob + 1, q, nI ob, nI ob, upd (oc_tc cb v ob 16) (ob * 16 + l) (nI b), upd (oc_tc ce v ob 16) (ob * 16 + l) (fe q), upd (oc_tc oe v ob 16) (ob * 16 + l) (fe q), upd org ob (ann n), co, cr, fn, fe, fp, gn, ge, gd, gs, oc_MM_pop M0 (by omega) (by omega) (oc_Ob_upd hc N w1 w2 x5 x8 x10 v1 w5 mO) (by omega), oc_Ph_pop, fun post h => ?_⟩
      rw [← x8] at h
      exact oc_xa3 hq hn32 w3 k1 (oc_xu1 m2 hq hn32 v1 hl f1 el (fun y' => absurd y' z) (fun _ y' => absurd y' y) (fun _ _ => h))
    · rw [k1] at y; exact absurd y (by decide)
/-- a step of an accepted term -/
theorem oc_tstep {NC TC tc nc us ob : Nat} {fail res val : Int32} {tm mk kd par num ann rcv bod mc ml mb cd cb ce org co cr fn fe fp : Nat → Int32} {rt rn : Nat → Int32} {ty : Nat → Nat} {r F q : Nat} (hc : nc ≤ 32) (htc : tc ≤ 32) (hF : F ≤ 128) (hr : r < nc) (N : oc_Nd nc tc kd par num ann rcv bod mc ml mb) (Y : oc_Ty tc tm mk) (D : oc_Ld nc kd mc ml) (T : oc_Tab tc tm kd par num ann rcv bod mc ml mb r rt rn (r + 1)) (hA : ∀ n, n < nc → oc_li par r n = true → ¬ rt n < 0)
    (M : oc_TM tc nc r F tm par kd bod ann rcv rt us ob (q + 1) val cb ce co cr fn fe fp ty) :
    (∃ (us' ob' fc' : Nat) (val' : Int32) (cb' ce' org' co' cr' fn' fe' fp' : Nat → Int32) (ty' : Nat → Nat), oc_TM tc nc r F tm par kd bod ann rcv rt us' ob' fc' val' cb' ce' co' cr' fn' fe' fp' ty' ∧ oc_Ph F us' fc' fn' fp' < oc_Ph F us (q + 1) fn fp ∧
      (∀ post : Int32 → St2 → Prop, post 0 (nI NC, nI TC, nI tc, nI nc, fail, res, nI F, nI us', nI ob', nI fc', val', tm, mk, kd, par, num, ann, rcv, bod, mc, ml, mb, cd, cb', ce', org', co', cr', fn', fe', fp') → wpX_advance post (nI NC, nI TC, nI tc, nI nc, fail, res, nI F, nI us, nI ob, nI (q + 1), val, tm, mk, kd, par, num, ann, rcv, bod, mc, ml, mb, cd, cb, ce, org, co, cr, fn, fe, fp))) ∨
    (∃ (c us' : Nat) (co' cr' fp' : Nat → Int32), (c = 3 ∨ c = 4 ∨ c = 5) ∧ us' ≤ F ∧
      (∀ post : Int32 → St2 → Prop, post (nI c) (nI NC, nI TC, nI tc, nI nc, fail, res, nI F, nI us', nI ob, nI (q + 1), val, tm, mk, kd, par, num, ann, rcv, bod, mc, ml, mb, cd, cb, ce, org, co', cr', fn, fe, fp') → wpX_advance post (nI NC, nI TC, nI tc, nI nc, fail, res, nI F, nI us, nI ob, nI (q + 1), val, tm, mk, kd, par, num, ann, rcv, bod, mc, ml, mb, cd, cb, ce, org, co, cr, fn, fe, fp))) := by
  have M0 := M
  have hP := oc_Nd_Pa N
  obtain ⟨m1, m2, m3, mO, mF, mV⟩ := M
  obtain ⟨n, w1, w2, w3, w5, w6, w9⟩ := mF q (by omega)
  have hq : q < 48 := by omega
  have hn32 : n < 32 := by omega
  have le := oc_li_le hP hc n w1 w2
  have ht := hA n w1 w2
  have recv : ∀ a, a < n → rcv n = nI a → par a = nI n → ¬ (kd n = 1 ∨ bod n = nI a) → (kd n = 2 ∨ kd n = 3) → fp q = 0 →
      (∃ (us' ob' fc' : Nat) (val' : Int32) (cb' ce' org' co' cr' fn' fe' fp' : Nat → Int32) (ty' : Nat → Nat), oc_TM tc nc r F tm par kd bod ann rcv rt us' ob' fc' val' cb' ce' co' cr' fn' fe' fp' ty' ∧ oc_Ph F us' fc' fn' fp' < oc_Ph F us (q + 1) fn fp ∧
      (∀ post : Int32 → St2 → Prop, post 0 (nI NC, nI TC, nI tc, nI nc, fail, res, nI F, nI us', nI ob', nI fc', val', tm, mk, kd, par, num, ann, rcv, bod, mc, ml, mb, cd, cb', ce', org', co', cr', fn', fe', fp') → wpX_advance post (nI NC, nI TC, nI tc, nI nc, fail, res, nI F, nI us, nI ob, nI (q + 1), val, tm, mk, kd, par, num, ann, rcv, bod, mc, ml, mb, cd, cb, ce, org, co, cr, fn, fe, fp))) ∨
      (∃ (c us' : Nat) (co' cr' fp' : Nat → Int32), (c = 3 ∨ c = 4 ∨ c = 5) ∧ us' ≤ F ∧
      (∀ post : Int32 → St2 → Prop, post (nI c) (nI NC, nI TC, nI tc, nI nc, fail, res, nI F, nI us', nI ob, nI (q + 1), val, tm, mk, kd, par, num, ann, rcv, bod, mc, ml, mb, cd, cb, ce, org, co', cr', fn, fe, fp') → wpX_advance post (nI NC, nI TC, nI tc, nI nc, fail, res, nI F, nI us, nI ob, nI (q + 1), val, tm, mk, kd, par, num, ann, rcv, bod, mc, ml, mb, cd, cb, ce, org, co, cr, fn, fe, fp))) := by
    intro a a1 a2 a3 a4 a5 a6
    obtain ⟨p1, p2, p3⟩ := oc_kid (r := r) hc N w1 w2 a1 a3
    have hX : ∀ post : Int32 → St2 → Prop, (q + 1 < 48 → post 0 (nI NC, nI TC, nI tc, nI nc, fail, res, nI F, nI us, nI ob, nI (q + 2), val, tm, mk, kd, par, num, ann, rcv, bod, mc, ml, mb, cd, cb, ce, org, co, cr, upd fn (q + 1) (nI a), upd fe (q + 1) (fe q), upd (upd fp q 1) (q + 1) 0)) → (¬ q + 1 < 48 → post 4 (nI NC, nI TC, nI tc, nI nc, fail, res, nI F, nI us, nI ob, nI (q + 1), val, tm, mk, kd, par, num, ann, rcv, bod, mc, ml, mb, cd, cb, ce, org, co, cr, fn, fe, upd fp q 1)) → wpX_advance post (nI NC, nI TC, nI tc, nI nc, fail, res, nI F, nI us, nI ob, nI (q + 1), val, tm, mk, kd, par, num, ann, rcv, bod, mc, ml, mb, cd, cb, ce, org, co, cr, fn, fe, fp) := fun post h1 h0 => by
      rw [← a2] at h1
      have g := oc_xs0 (e := fe q) hq hn32 a6 h1 h0
      rcases a5 with z | z
      · exact oc_xa2 hq hn32 w3 z g.1
      · exact oc_xa3 hq hn32 w3 z g.2
    by_cases z : q + 1 < 48
    · left
      refine ⟨us, ob, q + 2, val, cb, ce, org, co, cr, upd fn (q + 1) (nI a), upd fe (q + 1) (fe q), upd (upd fp q 1) (q + 1) 0, ty, ?_, ?_, fun post h => hX post (fun _ => h) (fun w => absurd z w)⟩
      · refine oc_TM_push hP hc M0 z (Nat.le_refl _) m1 (fun _ _ => ⟨rfl, rfl⟩) w1 w3 (Or.inl ⟨rfl, a5⟩) (by omega) p1 ((oc_ET_2 a3 a1 (by omega) (by omega) a4).mpr w5) (fun _ => ?_) (fun y => absurd rfl y)
        rw [a2, nI_clamp (by omega)]
        exact Or.inl rfl
      · refine oc_Ph_push (by omega) ?_
        have e : oc_wt fn fp q = 3 * n + 3 := by
          unfold oc_wt
          rw [if_pos a6, w3, nI_clamp (by omega)]
        rw [e, if_neg (by decide), if_pos rfl]
        omega
    · right
      exact ⟨4, us, co, cr, upd fp q 1, by omega, m1, fun post h => hX post (fun w => absurd w z) (fun _ => h)⟩
  have exq : ¬ fp q = 0 → ((∃ q', q + 1 = q' + 1 ∧ fp q' = 0) ∨ ∃ o, o < ob ∧ val = nI o ∧ oc_sub tm (ty o) (oc_ex rt rcv fn fp r (q + 1))) → ∃ o, o < ob ∧ val = nI o ∧ oc_sub tm (ty o) (if fp q = 1 then (rt (rcv n).toNatClampNeg).toNatClampNeg else (rt n).toNatClampNeg) := fun z w => by
    rcases w with ⟨q', e1, e2⟩ | ⟨o, o1, o2, o3⟩
    · have : q' = q := by omega
      subst this
      exact absurd e2 z
    · refine ⟨o, o1, o2, ?_⟩
      rw [oc_ex_s, w3, nI_clamp (by omega)] at o3
      exact o3
  rcases oc_kd N w1 with k1 | k1 | k1 | k1
  · -- a variable
    obtain ⟨k, p, A, hk, ek, hp, hb, hAt, eA, eT⟩ := oc_tV hc htc hr N T le k1 ht
    obtain ⟨o, o1, o2, o3⟩ := oc_ET_CH hP hc n w1 k (fe q) w5 hb
    rw [eA, nI_clamp (by omega)] at o3
    left
    refine ⟨us, ob, q, nI o, cb, ce, org, co, cr, fn, fe, fp, ty, oc_TM_pop hP hc M0 (Nat.le_refl _) m2 (fun _ _ => rfl) mO o1 w1 w3 ?_, oc_Ph_pop, fun post h => oc_xa0 hq hn32 w3 k1 ⟨k + 1, oc_xlook (by omega) hn32 hk ek h k 0 (fe q) (by omega) o2⟩⟩
    rw [eT, nI_clamp (by omega)]
    exact o3
  · -- a literal
    obtain ⟨A, m, hA1, hA0, eA, eT, em, hm8, L, hb⟩ := oc_tO hc htc hr N Y T le k1 ht
    have hl : ∀ i, i < m → ∃ l, l < 16 ∧ ml (n * 8 + i) = nI l := fun i hi => by
      obtain ⟨l, b, u, m', y1, y2, -⟩ := hb i hi
      exact ⟨l, y1, y2⟩
    have cm : (mc n).toNatClampNeg = m := by rw [em, nI_clamp (by omega)]
    have hd := D n w1 k1
    rw [cm] at hd
    by_cases z : ob = 32
    · right
      refine ⟨5, us, co, cr, fp, by omega, m1, fun post h => oc_xa1 hq hn32 w3 k1 ?_⟩
      unfold wpX_advanceObject
      exact br_f (nI_nlt (b := 32) (by omega) (by omega)) h
    · left
      refine ⟨us, ob + 1, q, nI ob, oc_mt (oc_fi cb ob (-1) 16) ml mb ob n m, oc_mt ce ml (fun _ => fe q) ob n m, upd org ob (ann n), co, cr, fn, fe, fp, oc_tyU ty ob A, oc_TM_pop hP hc M0 (by omega) (by omega) (fun o ho => oc_tyU_lo ho) (oc_TO_obj (num := num) (rcv := rcv) hc htc hP w1 w2 k1 hA1 hA0 eA em hm8 L hd hb w5 mO) (Nat.lt_succ_self ob) w1 w3 ?_, oc_Ph_pop, fun post h => oc_xa1 hq hn32 w3 k1 (oc_xob hn32 (by omega) em hm8 hl h)⟩
      rw [oc_tyU_at, eT, nI_clamp (by omega)]
      exact Or.inl rfl
  · -- an invocation
    obtain ⟨l, a, k, m', hl, el, eb, ha, era, epa, hk, hk0, erk, hm', emk, eT⟩ := oc_tS hc htc hr N Y T le k1 ht
    rcases w9 with ⟨f0, -⟩ | ⟨f1, -⟩ | ⟨f2, -⟩
    · refine recv a ha era epa (fun w => ?_) (Or.inl k1) f0
      rcases w with w | w
      · rw [k1] at w; exact absurd w (by decide)
      · rw [eb] at w; exact absurd w (oc_m1' (by omega))
    · obtain ⟨v, v1, rfl, v3⟩ := exq (by rw [f1]; decide) mV
      rw [if_pos f1, era, nI_clamp (by omega), erk, nI_clamp (by omega)] at v3
      have etm := oc_sub_me v3 hk0 hl (by rw [emk]; exact oc_m1 (by omega))
      rw [emk] at etm
      obtain ⟨b, p, u, x1, x2, x3, x4, x5, z3, x7, x8, x9, x10, x11⟩ := (mO v v1).2.2 l hl m' hm' etm
      have nz : ¬ cb (v * 16 + l) = -1 := by rw [z3]; exact oc_m1 (by omega)
      have lep := oc_li_le hP hc p x2 x4
      by_cases y : us = F
      · right
        refine ⟨3, us, co, cr, fp, by omega, m1, fun post h => oc_xa2 hq hn32 w3 k1 ?_⟩
        exact oc_xs1 hF m1 hq hn32 (by omega) hl f1 el (fun y' => absurd y' nz) (fun _ _ => h) (fun _ y' => by omega) (fun _ y' => by omega)
      have hX : ∀ post : Int32 → St2 → Prop, (q + 1 < 48 → post 0 (nI NC, nI TC, nI tc, nI nc, fail, res, nI F, nI (us + 1), nI ob, nI (q + 2), nI v, tm, mk, kd, par, num, ann, rcv, bod, mc, ml, mb, cd, cb, ce, org, upd co us (nI v), upd cr us (ce (v * 16 + l)), upd fn (q + 1) (nI b), upd fe (q + 1) (nI us), upd (upd fp q 2) (q + 1) 0)) →
          (¬ q + 1 < 48 → post 4 (nI NC, nI TC, nI tc, nI nc, fail, res, nI F, nI (us + 1), nI ob, nI (q + 1), nI v, tm, mk, kd, par, num, ann, rcv, bod, mc, ml, mb, cd, cb, ce, org, upd co us (nI v), upd cr us (ce (v * 16 + l)), fn, fe, upd fp q 2)) → wpX_advance post (nI NC, nI TC, nI tc, nI nc, fail, res, nI F, nI us, nI ob, nI (q + 1), nI v, tm, mk, kd, par, num, ann, rcv, bod, mc, ml, mb, cd, cb, ce, org, co, cr, fn, fe, fp) := fun post h1 h0 => by
        rw [← z3] at h1
        exact oc_xa2 hq hn32 w3 k1 (oc_xs1 hF m1 hq hn32 (by omega) hl f1 el (fun y' => absurd y' nz) (fun _ y' => absurd y' y) (fun _ _ => h1) (fun _ _ => h0))
      by_cases z' : q + 1 < 48
      · left
        have agree : ∀ c, c < us → upd co us (nI v) c = co c ∧ upd cr us (ce (v * 16 + l)) c = cr c := fun c hc' => ⟨pk_un (by omega), pk_un (by omega)⟩
        refine ⟨us + 1, ob, q + 2, nI v, cb, ce, org, upd co us (nI v), upd cr us (ce (v * 16 + l)), upd fn (q + 1) (nI b), upd fe (q + 1) (nI us), upd (upd fp q 2) (q + 1) 0, ty, ?_, ?_, fun post h => hX post (fun _ => h) (fun w => absurd z' w)⟩
        · refine oc_TM_push hP hc M0 z' (by omega) (by omega) agree w1 w3 (Or.inr ⟨rfl, k1⟩) (by omega) (by rw [oc_li_s x3 x1 (by omega) (by omega)]; exact x4) ?_ (fun y' => absurd y' (by decide)) (fun _ => ?_)
          · refine (oc_ET_1 x3 x1 (by omega) (by omega) x5).mpr ⟨us, v, by omega, rfl, v1, pk_us, x10, ?_⟩
            rw [pk_us]
            exact oc_ET_mo hP hc (by omega) (Nat.le_refl _) agree (fun _ _ => rfl) p x2 _ x11
          · rw [x8, eT, nI_clamp (by omega), nI_clamp (by omega)]
            exact x9
        · refine oc_Ph_push (by omega) ?_
          have e : oc_wt fn fp q = 2 := by
            unfold oc_wt
            rw [if_neg (by rw [f1]; decide), if_pos f1]
          rw [e, if_neg (by decide), if_neg (by decide)]
          omega
      · right
        exact ⟨4, us + 1, upd co us (nI v), upd cr us (ce (v * 16 + l)), upd fp q 2, by omega, by omega, fun post h => hX post (fun w => absurd w z') (fun _ => h)⟩
    · obtain ⟨v, v1, rfl, v3⟩ := exq (by rw [f2]; decide) mV
      rw [if_neg (by rw [f2]; decide)] at v3
      left
      exact ⟨us, ob, q, nI v, cb, ce, org, co, cr, fn, fe, fp, ty, oc_TM_pop hP hc M0 (Nat.le_refl _) m2 (fun _ _ => rfl) mO v1 w1 w3 v3, oc_Ph_pop, fun post h => oc_xa2 hq hn32 w3 k1 (oc_xs2 hq f2 h)⟩
  · -- an update
    obtain ⟨l, a, b, A, k, u, m', hl, el, ha, hb, nab, era, erb, epa, epb, hA1, hA0, eA, eT, hk, erk, hs, hu, eru, hm', emA, hsu⟩ := oc_tU hc htc hr N Y T le k1 ht
    rcases w9 with ⟨f0, -⟩ | ⟨f1, -⟩ | ⟨f2, y⟩
    · refine recv a ha era epa (fun w => ?_) (Or.inr k1) f0
      rcases w with w | w
      · rw [k1] at w; exact absurd w (by decide)
      · rw [erb, nI_eq (by omega) (by omega)] at w; exact nab w.symm
    · obtain ⟨v, v1, rfl, v3⟩ := exq (by rw [f1]; decide) mV
      rw [if_pos f1, era, nI_clamp (by omega), erk, nI_clamp (by omega)] at v3
      have v4 := oc_sub_tr v3 hs
      have etm := oc_sub_me v4 hA0 hl (by rw [emA]; exact oc_m1 (by omega))
      rw [emA] at etm
      obtain ⟨b', p, u', x1, x2, x3, x4, x5, z3, -⟩ := (mO v v1).2.2 l hl m' hm' etm
      have nz : ¬ cb (v * 16 + l) = -1 := by rw [z3]; exact oc_m1 (by omega)
      by_cases y : ob = 32
      · right
        refine ⟨5, us, co, cr, fp, by omega, m1, fun post h => oc_xa3 hq hn32 w3 k1 ?_⟩
        exact oc_xu1 m2 hq hn32 v1 hl f1 el (fun y' => absurd y' nz) (fun _ _ => h) (fun _ y' => by omega)
      left
      refine ⟨us, ob + 1, q, nI ob, upd (oc_tc cb v ob 16) (ob * 16 + l) (nI b), upd (oc_tc ce v ob 16) (ob * 16 + l) (fe q), upd org ob (ann n), co, cr, fn, fe, fp, oc_tyU ty ob (ty v), oc_TM_pop hP hc M0 (by omega) (by omega) (fun o ho => oc_tyU_lo ho) (oc_TO_upd hc htc hP w1 w2 hb erb epb v1 hl eA hA1 v4 hu eru hm' etm hsu w5 mO) (Nat.lt_succ_self ob) w1 w3 ?_, oc_Ph_pop, fun post h => ?_⟩
      · rw [oc_tyU_at, eT, nI_clamp (by omega)]
        exact v4
      · rw [← erb] at h
        exact oc_xa3 hq hn32 w3 k1 (oc_xu1 m2 hq hn32 v1 hl f1 el (fun y' => absurd y' nz) (fun _ y' => absurd y' y) (fun _ _ => h))
    · rw [k1] at y; exact absurd y (by decide)
