/-! X's invocation and update -/
theorem oc_xs0 {NC TC tc nc us ob : Nat} {fail res fl val : Int32} {tm mk kd par num ann rcv bod mc ml mb cd cb ce org co cr fn fe fp : Nat → Int32} {post : Int32 → SX → Prop} {q n : Nat} {e : Int32} (hq : q < 48) (hn : n < 32) (ep : fp q = 0)
    (h1 : q + 1 < 48 → post 0 (nI NC, nI TC, nI tc, nI nc, fail, res, fl, nI us, nI ob, nI (q + 2), val, tm, mk, kd, par, num, ann, rcv, bod, mc, ml, mb, cd, cb, ce, org, co, cr, upd fn (q + 1) (rcv n), upd fe (q + 1) e, upd (upd fp q 1) (q + 1) 0)) (h0 : ¬ q + 1 < 48 → post 4 (nI NC, nI TC, nI tc, nI nc, fail, res, fl, nI us, nI ob, nI (q + 1), val, tm, mk, kd, par, num, ann, rcv, bod, mc, ml, mb, cd, cb, ce, org, co, cr, fn, fe, upd fp q 1)) :
    wpX_advanceSelect post (nI NC, nI TC, nI tc, nI nc, fail, res, fl, nI us, nI ob, nI (q + 1), val, tm, mk, kd, par, num, ann, rcv, bod, mc, ml, mb, cd, cb, ce, org, co, cr, fn, fe, fp) (nI n) e (nI q) ∧ wpX_advanceUpdate post (nI NC, nI TC, nI tc, nI nc, fail, res, fl, nI us, nI ob, nI (q + 1), val, tm, mk, kd, par, num, ann, rcv, bod, mc, ml, mb, cd, cb, ce, org, co, cr, fn, fe, fp) (nI n) e (nI q) := by
  have vq : vp_in (nI q) 48 := vp_in_nI hq (by omega)
  have vn : vp_in (nI n) 32 := vp_in_nI hn (by omega)
  refine ⟨?_, ?_⟩
  · unfold wpX_advanceSelect
    refine ⟨vq, ?_⟩
    rw [nI_clamp (n := q) (by omega)]
    refine br_t ep ⟨vq, nm_e ⟨vn, ?_⟩⟩
    rw [nI_clamp (n := n) (by omega)]
    by_cases z : q + 1 < 48
    · exact oc_xen1 z (h1 z)
    · exact oc_xen0 (by omega) (by omega) (h0 z)
  · unfold wpX_advanceUpdate
    refine ⟨vq, ?_⟩
    rw [nI_clamp (n := q) (by omega)]
    refine br_t ep ⟨vq, nm_e ⟨vn, ?_⟩⟩
    rw [nI_clamp (n := n) (by omega)]
    by_cases z : q + 1 < 48
    · exact oc_xen1 z (h1 z)
    · exact oc_xen0 (by omega) (by omega) (h0 z)
theorem oc_xs2 {NC TC tc nc us ob : Nat} {fail res fl val : Int32} {tm mk kd par num ann rcv bod mc ml mb cd cb ce org co cr fn fe fp : Nat → Int32} {post : Int32 → SX → Prop} {q n : Nat} {e : Int32} (hq : q < 48) (ep : fp q = 2) (h : post 0 (nI NC, nI TC, nI tc, nI nc, fail, res, fl, nI us, nI ob, nI q, val, tm, mk, kd, par, num, ann, rcv, bod, mc, ml, mb, cd, cb, ce, org, co, cr, fn, fe, fp)) : wpX_advanceSelect post (nI NC, nI TC, nI tc, nI nc, fail, res, fl, nI us, nI ob, nI (q + 1), val, tm, mk, kd, par, num, ann, rcv, bod, mc, ml, mb, cd, cb, ce, org, co, cr, fn, fe, fp) (nI n) e (nI q) := by
  have vq : vp_in (nI q) 48 := vp_in_nI hq (by omega)
  unfold wpX_advanceSelect
  refine ⟨vq, ?_⟩
  rw [nI_clamp (n := q) (by omega)]
  exact br_f (by rw [ep]; decide) ⟨vq, br_t ep (oc_xlv h)⟩
theorem oc_xs1 {NC TC tc nc us ob : Nat} {fail res : Int32} {tm mk kd par num ann rcv bod mc ml mb cd cb ce org co cr fn fe fp : Nat → Int32} {post : Int32 → SX → Prop} {F q n l v : Nat} {e : Int32} (hF : F ≤ 128) (hus : us ≤ F) (hq : q < 48) (hn : n < 32) (hv : v < 32) (hl : l < 16) (ep : fp q = 1) (el : num n = nI l)
    (h1 : cb (v * 16 + l) = -1 → post 1 (nI NC, nI TC, nI tc, nI nc, fail, res, nI F, nI us, nI ob, nI (q + 1), nI v, tm, mk, kd, par, num, ann, rcv, bod, mc, ml, mb, cd, cb, ce, org, co, cr, fn, fe, fp)) (h3 : ¬ cb (v * 16 + l) = -1 → us = F → post 3 (nI NC, nI TC, nI tc, nI nc, fail, res, nI F, nI us, nI ob, nI (q + 1), nI v, tm, mk, kd, par, num, ann, rcv, bod, mc, ml, mb, cd, cb, ce, org, co, cr, fn, fe, fp))
    (h : ¬ cb (v * 16 + l) = -1 → us < F → q + 1 < 48 → post 0 (nI NC, nI TC, nI tc, nI nc, fail, res, nI F, nI (us + 1), nI ob, nI (q + 2), nI v, tm, mk, kd, par, num, ann, rcv, bod, mc, ml, mb, cd, cb, ce, org, upd co us (nI v), upd cr us (ce (v * 16 + l)), upd fn (q + 1) (cb (v * 16 + l)), upd fe (q + 1) (nI us), upd (upd fp q 2) (q + 1) 0))
    (h4 : ¬ cb (v * 16 + l) = -1 → us < F → ¬ q + 1 < 48 → post 4 (nI NC, nI TC, nI tc, nI nc, fail, res, nI F, nI (us + 1), nI ob, nI (q + 1), nI v, tm, mk, kd, par, num, ann, rcv, bod, mc, ml, mb, cd, cb, ce, org, upd co us (nI v), upd cr us (ce (v * 16 + l)), fn, fe, upd fp q 2)) :
    wpX_advanceSelect post (nI NC, nI TC, nI tc, nI nc, fail, res, nI F, nI us, nI ob, nI (q + 1), nI v, tm, mk, kd, par, num, ann, rcv, bod, mc, ml, mb, cd, cb, ce, org, co, cr, fn, fe, fp) (nI n) e (nI q) := by
  have vq : vp_in (nI q) 48 := vp_in_nI hq (by omega)
  have vn : vp_in (nI n) 32 := vp_in_nI hn (by omega)
  have v16 : vp_in (nI (v * 16 + l)) 512 := vp_in_nI (by omega) (by omega)
  have c16 : (nI (v * 16 + l)).toNatClampNeg = v * 16 + l := nI_clamp (by omega)
  unfold wpX_advanceSelect
  refine ⟨vq, ?_⟩
  rw [nI_clamp (n := q) (by omega)]
  refine br_f (by rw [ep]; decide) ⟨vq, br_f (by rw [ep]; decide) ⟨vn, ?_⟩⟩
  rw [nI_clamp (n := n) (by omega), el]
  refine nm_r (oc_i16 v l) ⟨v16, ?_⟩
  rw [c16]
  refine br_c (fun z => h1 z) (fun z => pk_lt us F (fun y => nm_r (nI_1 us) ?_) (fun y => h3 z (by omega)))
  have vu : vp_in (nI us) 128 := vp_in_nI (by omega) (by omega)
  refine ⟨vu, nm_e ⟨v16, vu, nm_e ⟨vq, nm_e ⟨v16, ?_⟩⟩⟩⟩
  rw [nI_clamp (n := us) (by omega)]
  by_cases w : q + 1 < 48
  · exact oc_xen1 w (h z y w)
  · exact oc_xen0 (by omega) (by omega) (h4 z y w)
theorem oc_xu1 {NC TC tc nc us ob : Nat} {fail res fl : Int32} {tm mk kd par num ann rcv bod mc ml mb cd cb ce org co cr fn fe fp : Nat → Int32} {post : Int32 → SX → Prop} {q n l v : Nat} {e : Int32} (hob : ob ≤ 32) (hq : q < 48) (hn : n < 32) (hv : v < ob) (hl : l < 16) (ep : fp q = 1) (el : num n = nI l)
    (h2 : cb (v * 16 + l) = -1 → post 2 (nI NC, nI TC, nI tc, nI nc, fail, res, fl, nI us, nI ob, nI (q + 1), nI v, tm, mk, kd, par, num, ann, rcv, bod, mc, ml, mb, cd, cb, ce, org, co, cr, fn, fe, fp)) (h5 : ¬ cb (v * 16 + l) = -1 → ob = 32 → post 5 (nI NC, nI TC, nI tc, nI nc, fail, res, fl, nI us, nI ob, nI (q + 1), nI v, tm, mk, kd, par, num, ann, rcv, bod, mc, ml, mb, cd, cb, ce, org, co, cr, fn, fe, fp))
    (h : ¬ cb (v * 16 + l) = -1 → ob < 32 → post 0 (nI NC, nI TC, nI tc, nI nc, fail, res, fl, nI us, nI (ob + 1), nI q, nI ob, tm, mk, kd, par, num, ann, rcv, bod, mc, ml, mb, cd, upd (oc_tc cb v ob 16) (ob * 16 + l) (bod n), upd (oc_tc ce v ob 16) (ob * 16 + l) e, upd org ob (ann n), co, cr, fn, fe, fp)) :
    wpX_advanceUpdate post (nI NC, nI TC, nI tc, nI nc, fail, res, fl, nI us, nI ob, nI (q + 1), nI v, tm, mk, kd, par, num, ann, rcv, bod, mc, ml, mb, cd, cb, ce, org, co, cr, fn, fe, fp) (nI n) e (nI q) := by
  have vq : vp_in (nI q) 48 := vp_in_nI hq (by omega)
  have vn : vp_in (nI n) 32 := vp_in_nI hn (by omega)
  unfold wpX_advanceUpdate
  refine ⟨vq, ?_⟩
  rw [nI_clamp (n := q) (by omega)]
  refine br_f (by rw [ep]; decide) ⟨vn, ?_⟩
  rw [nI_clamp (n := n) (by omega), el]
  refine ⟨oc_v16 (by omega) hl, ?_⟩
  rw [oc_k16 (by omega) hl]
  refine br_c (fun z => h2 z) (fun z => pk_lt ob 32 (fun y => nm_r (nI_1 ob) ⟨vn, vp_in_nI (by omega) (by omega), nm_e ?_⟩) (fun y => h5 z (by omega)))
  rw [nI_clamp (n := ob) (by omega)]
  exact oc_xud hn y hv hl el (h z y)
/-! the loop of Y's run -/
theorem oc_yrs {NC TC tc nc us ob : Nat} {fail ret fu res : Int32} {tm kY nk rcv bod ann par mc ml mb rt rn cb oe org co cr gn ge gd gs : Nat → Int32} {post : Int32 → SY → Prop} {q s g : Nat} (hq : q + 1 < 2 ^ 31) (hs : s < 65536) (h : wpY_step (fun r_109 u => match u with | (a0, a1, a2, a3, a4, a5, a6, a7, a8, a9, a10, b1, b2, b3, b4, b5, b6, b7, b8, b9, b10, b11, b12, b13, b14, b15, b16, b17, b18, b19, b20, b21) => wY_run_84 post g r_109 (nI (s + 1)) a0 a1 a2 a3 a4 a5 a6 a7 a8 a9 a10 b1 b2 b3 b4 b5 b6 b7 b8 b9 b10 b11 b12 b13 b14 b15 b16 b17 b18 b19 b20 b21) (nI NC, nI TC, nI tc, nI nc, fail, nI (q + 1), ret, nI us, nI ob, fu, res, tm, kY, nk, rcv, bod, ann, par, mc, ml, mb, rt, rn, cb, oe, org, co, cr, gn, ge, gd, gs)) :
    wY_run_84 post (g + 1) (-1) (nI s) (nI NC) (nI TC) (nI tc) (nI nc) fail (nI (q + 1)) ret (nI us) (nI ob) fu res tm kY nk rcv bod ann par mc ml mb rt rn cb oe org co cr gn ge gd gs := by
  refine br_f (nI_ge (b := 65536) hs (by omega)) (br_f (nI_nle (by omega) hq) (br_f (by decide) ?_))
  rw [nI_1]
  simp only [forall_eq]
  exact h
theorem oc_yre {NC TC tc nc us ob : Nat} {fail sp ret fu res : Int32} {tm kY nk rcv bod ann par mc ml mb rt rn cb oe org co cr gn ge gd gs : Nat → Int32} {post : Int32 → SY → Prop} {c g : Nat} {s : Int32} (hc : c < 2 ^ 31) (h : post (nI c) (nI NC, nI TC, nI tc, nI nc, fail, sp, ret, nI us, nI ob, fu, res, tm, kY, nk, rcv, bod, ann, par, mc, ml, mb, rt, rn, cb, oe, org, co, cr, gn, ge, gd, gs)) : wY_run_84 post (g + 1) (nI c) s (nI NC) (nI TC) (nI tc) (nI nc) fail sp ret (nI us) (nI ob) fu res tm kY nk rcv bod ann par mc ml mb rt rn cb oe org co cr gn ge gd gs := by
  have e : wY_run_113 post (nI c) (nI NC) (nI TC) (nI tc) (nI nc) fail sp ret (nI us) (nI ob) fu res tm kY nk rcv bod ann par mc ml mb rt rn cb oe org co cr gn ge gd gs := br_f (nI_pos hc) h
  exact br_c (fun _ => e) (fun _ => br_c (fun _ => e) (fun _ => br_t (nI_pos' hc) e))
