theorem oc_xs0 {NC TC tc nc us ob : Nat} {fail res fl val : Int32} {tm mk kd par num ann rcv bod mc ml mb cd cb ce org co cr fn fe fp : Nat → Int32} {post : Int32 → St2 → Prop} {q n : Nat} {e : Int32} (hq : q < 48) (hn : n < 32) (ep : fp q = 0)
    (h1 : q + 1 < 48 → post 0 (nI NC, nI TC, nI tc, nI nc, fail, res, fl, nI us, nI ob, nI (q + 2), val, tm, mk, kd, par, num, ann, rcv, bod, mc, ml, mb, cd, cb, ce, org, co, cr, upd fn (q + 1) (rcv n), upd fe (q + 1) e, upd (upd fp q 1) (q + 1) 0)) (h0 : ¬ q + 1 < 48 → post 4 (nI NC, nI TC, nI tc, nI nc, fail, res, fl, nI us, nI ob, nI (q + 1), val, tm, mk, kd, par, num, ann, rcv, bod, mc, ml, mb, cd, cb, ce, org, co, cr, fn, fe, upd fp q 1)) :
    wpX_advanceSelect post (nI NC, nI TC, nI tc, nI nc, fail, res, fl, nI us, nI ob, nI (q + 1), val, tm, mk, kd, par, num, ann, rcv, bod, mc, ml, mb, cd, cb, ce, org, co, cr, fn, fe, fp) (nI n) e (nI q) ∧ wpX_advanceUpdate post (nI NC, nI TC, nI tc, nI nc, fail, res, fl, nI us, nI ob, nI (q + 1), val, tm, mk, kd, par, num, ann, rcv, bod, mc, ml, mb, cd, cb, ce, org, co, cr, fn, fe, fp) (nI n) e (nI q) := by
  have vq : vp_in (nI q) 48 := vp_in_nI hq (by omega)
  have vn : vp_in (nI n) 32 := vp_in_nI hn (by omega)
  refine ⟨?_, ?_⟩
  · unfold wpX_advanceSelect
    refine ⟨vq, ?_⟩
    rw [nI_clamp (n := q) (by omega)]
    refine br_t ep ⟨vq, nm_e ⟨vn, ?_⟩⟩
    rw [nI_clamp (n := n) (by omega)]
    by_cases z : q + 1 < 48
    · exact oc_xen1 z (h1 z)
    · exact oc_xen0 (by omega) (by omega) (h0 z)
  · unfold wpX_advanceUpdate
    refine ⟨vq, ?_⟩
    rw [nI_clamp (n := q) (by omega)]
    refine br_t ep ⟨vq, nm_e ⟨vn, ?_⟩⟩
    rw [nI_clamp (n := n) (by omega)]
    by_cases z : q + 1 < 48
    · exact oc_xen1 z (h1 z)
    · exact oc_xen0 (by omega) (by omega) (h0 z)
theorem oc_xs2 {NC TC tc nc us ob : Nat} {fail res fl val : Int32} {tm mk kd par num ann rcv bod mc ml mb cd cb ce org co cr fn fe fp : Nat → Int32} {post : Int32 → St2 → Prop} {q n : Nat} {e : Int32} (hq : q < 48) (ep : fp q = 2) (h : post 0 (nI NC, nI TC, nI tc, nI nc, fail, res, fl, nI us, nI ob, nI q, val, tm, mk, kd, par, num, ann, rcv, bod, mc, ml, mb, cd, cb, ce, org, co, cr, fn, fe, fp)) : wpX_advanceSelect post (nI NC, nI TC, nI tc, nI nc, fail, res, fl, nI us, nI ob, nI (q + 1), val, tm, mk, kd, par, num, ann, rcv, bod, mc, ml, mb, cd, cb, ce, org, co, cr, fn, fe, fp) (nI n) e (nI q) := by
  have vq : vp_in (nI q) 48 := vp_in_nI hq (by omega)
  unfold wpX_advanceSelect
  refine ⟨vq, ?_⟩
  rw [nI_clamp (n := q) (by omega)]
  exact br_f (by rw [ep]; decide) ⟨vq, br_t ep (oc_xlv h)⟩
theorem oc_xs1 {NC TC tc nc us ob : Nat} {fail res : Int32} {tm mk kd par num ann rcv bod mc ml mb cd cb ce org co cr fn fe fp : Nat → Int32} {post : Int32 → St2 → Prop} {F q n l v : Nat} {e : Int32} (hF : F ≤ 128) (hus : us ≤ F) (hq : q < 48) (hn : n < 32) (hv : v < 32) (hl : l < 16) (ep : fp q = 1) (el : num n = nI l)
    (h1 : cb (v * 16 + l) = -1 → post 1 (nI NC, nI TC, nI tc, nI nc, fail, res, nI F, nI us, nI ob, nI (q + 1), nI v, tm, mk, kd, par, num, ann, rcv, bod, mc, ml, mb, cd, cb, ce, org, co, cr, fn, fe, fp)) (h3 : ¬ cb (v * 16 + l) = -1 → us = F → post 3 (nI NC, nI TC, nI tc, nI nc, fail, res, nI F, nI us, nI ob, nI (q + 1), nI v, tm, mk, kd, par, num, ann, rcv, bod, mc, ml, mb, cd, cb, ce, org, co, cr, fn, fe, fp))
    (h : ¬ cb (v * 16 + l) = -1 → us < F → q + 1 < 48 → post 0 (nI NC, nI TC, nI tc, nI nc, fail, res, nI F, nI (us + 1), nI ob, nI (q + 2), nI v, tm, mk, kd, par, num, ann, rcv, bod, mc, ml, mb, cd, cb, ce, org, upd co us (nI v), upd cr us (ce (v * 16 + l)), upd fn (q + 1) (cb (v * 16 + l)), upd fe (q + 1) (nI us), upd (upd fp q 2) (q + 1) 0))
    (h4 : ¬ cb (v * 16 + l) = -1 → us < F → ¬ q + 1 < 48 → post 4 (nI NC, nI TC, nI tc, nI nc, fail, res, nI F, nI (us + 1), nI ob, nI (q + 1), nI v, tm, mk, kd, par, num, ann, rcv, bod, mc, ml, mb, cd, cb, ce, org, upd co us (nI v), upd cr us (ce (v * 16 + l)), fn, fe, upd fp q 2)) :
    wpX_advanceSelect post (nI NC, nI TC, nI tc, nI nc, fail, res, nI F, nI us, nI ob, nI (q + 1), nI v, tm, mk, kd, par, num, ann, rcv, bod, mc, ml, mb, cd, cb, ce, org, co, cr, fn, fe, fp) (nI n) e (nI q) := by
  have vq : vp_in (nI q) 48 := vp_in_nI hq (by omega)
  have vn : vp_in (nI n) 32 := vp_in_nI hn (by omega)
  have v16 : vp_in (nI (v * 16 + l)) 512 := vp_in_nI (by omega) (by omega)
  have c16 : (nI (v * 16 + l)).toNatClampNeg = v * 16 + l := nI_clamp (by omega)
  unfold wpX_advanceSelect
  refine ⟨vq, ?_⟩
  rw [nI_clamp (n := q) (by omega)]
  refine br_f (by rw [ep]; decide) ⟨vq, br_f (by rw [ep]; decide) ⟨vn, ?_⟩⟩
  rw [nI_clamp (n := n) (by omega), el]
  refine nm_r (oc_i16 v l) ⟨v16, ?_⟩
  rw [c16]
  refine br_c (fun z => h1 z) (fun z => pk_lt us F (fun y => nm_r (nI_1 us) ?_) (fun y => h3 z (by omega)))
  have vu : vp_in (nI us) 128 := vp_in_nI (by omega) (by omega)
  refine ⟨vu, nm_e ⟨v16, vu, nm_e ⟨vq, nm_e ⟨v16, ?_⟩⟩⟩⟩
  rw [nI_clamp (n := us) (by omega)]
  by_cases w : q + 1 < 48
  · exact oc_xen1 w (h z y w)
  · exact oc_xen0 (by omega) (by omega) (h4 z y w)
theorem oc_xu1 {NC TC tc nc us ob : Nat} {fail res fl : Int32} {tm mk kd par num ann rcv bod mc ml mb cd cb ce org co cr fn fe fp : Nat → Int32} {post : Int32 → St2 → Prop} {q n l v : Nat} {e : Int32} (hob : ob ≤ 32) (hq : q < 48) (hn : n < 32) (hv : v < ob) (hl : l < 16) (ep : fp q = 1) (el : num n = nI l)
    (h2 : cb (v * 16 + l) = -1 → post 2 (nI NC, nI TC, nI tc, nI nc, fail, res, fl, nI us, nI ob, nI (q + 1), nI v, tm, mk, kd, par, num, ann, rcv, bod, mc, ml, mb, cd, cb, ce, org, co, cr, fn, fe, fp)) (h5 : ¬ cb (v * 16 + l) = -1 → ob = 32 → post 5 (nI NC, nI TC, nI tc, nI nc, fail, res, fl, nI us, nI ob, nI (q + 1), nI v, tm, mk, kd, par, num, ann, rcv, bod, mc, ml, mb, cd, cb, ce, org, co, cr, fn, fe, fp))
    (h : ¬ cb (v * 16 + l) = -1 → ob < 32 → post 0 (nI NC, nI TC, nI tc, nI nc, fail, res, fl, nI us, nI (ob + 1), nI q, nI ob, tm, mk, kd, par, num, ann, rcv, bod, mc, ml, mb, cd, upd (oc_tc cb v ob 16) (ob * 16 + l) (bod n), upd (oc_tc ce v ob 16) (ob * 16 + l) e, upd org ob (ann n), co, cr, fn, fe, fp)) :
    wpX_advanceUpdate post (nI NC, nI TC, nI tc, nI nc, fail, res, fl, nI us, nI ob, nI (q + 1), nI v, tm, mk, kd, par, num, ann, rcv, bod, mc, ml, mb, cd, cb, ce, org, co, cr, fn, fe, fp) (nI n) e (nI q) := by
  have vq : vp_in (nI q) 48 := vp_in_nI hq (by omega)
  have vn : vp_in (nI n) 32 := vp_in_nI hn (by omega)
  unfold wpX_advanceUpdate
  refine ⟨vq, ?_⟩
  rw [nI_clamp (n := q) (by omega)]
  refine br_f (by rw [ep]; decide) ⟨vn, ?_⟩
  rw [nI_clamp (n := n) (by omega), el]
  refine ⟨oc_v16 (by omega) hl, ?_⟩
  rw [oc_k16 (by omega) hl]
  refine br_c (fun z => h2 z) (fun z => pk_lt ob 32 (fun y => nm_r (nI_1 ob) ⟨vn, vp_in_nI (by omega) (by omega), nm_e ?_⟩) (fun y => h5 z (by omega)))
  rw [nI_clamp (n := ob) (by omega)]
  exact oc_xud hn y hv hl el (h z y)
