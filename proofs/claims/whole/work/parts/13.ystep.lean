/-! the steps of Y's machine -/
theorem oc_yps {NC TC tc nc us ob : Nat} {fail ret fu res : Int32} {tm kY nk rcv bod ann par mc ml mb rt rn cb oe org co cr gn ge gd gs : Nat → Int32} {post : Int32 → SY → Prop} {q : Nat} {n e d : Int32} (hq : q < 64) (h : post (-1) (nI NC, nI TC, nI tc, nI nc, fail, nI (q + 1), ret, nI us, nI ob, fu, res, tm, kY, nk, rcv, bod, ann, par, mc, ml, mb, rt, rn, cb, oe, org, co, cr, upd gn q n, upd ge q e, upd gd q d, upd gs q 0)) : wpY_push post (nI NC, nI TC, nI tc, nI nc, fail, nI q, ret, nI us, nI ob, fu, res, tm, kY, nk, rcv, bod, ann, par, mc, ml, mb, rt, rn, cb, oe, org, co, cr, gn, ge, gd, gs) n e d := by
  have vq : vp_in (nI q) 64 := vp_in_nI hq (by omega)
  unfold wpY_push
  refine br_t (nI_lt (b := 64) hq (by omega)) ⟨vq, nm_e ⟨vq, nm_e ⟨vq, nm_e ⟨vq, nm_e (nm_e ?_)⟩⟩⟩⟩
  rw [nI_clamp (n := q) (by omega), nI_1]
  exact h
theorem oc_yob1 {NC TC tc nc us ob : Nat} {fail fu res : Int32} {tm kY nk rcv bod ann par mc ml mb rt rn cb oe org co cr gn ge gd gs : Nat → Int32} {post : Int32 → SY → Prop} {ret : Int32} {q n m : Nat} {e : Int32} (hn : n < 32) (hob : ob < 32) (hm : mc n = nI m) (hm8 : m ≤ 8) (hl : ∀ i, i < m → ∃ l, l < 16 ∧ ml (n * 8 + i) = nI l)
    (h : post (-1) (nI NC, nI TC, nI tc, nI nc, fail, nI q, nI ob, nI us, nI (ob + 1), fu, res, tm, kY, nk, rcv, bod, ann, par, mc, ml, mb, rt, rn, oc_mt (oc_fi cb ob (-1) 16) ml mb ob n m, oc_mt (oc_fi oe ob (-1) 16) ml (fun _ => e) ob n m, upd org ob (ann n), co, cr, gn, ge, gd, gs)) :
    ∃ n158 : Nat, wY_step_158 post (nI n) e (nI ob) (nI NC) (nI TC) (nI tc) (nI nc) fail (nI (q + 1)) ret (nI us) (nI (ob + 1)) fu res n158 0 tm kY nk rcv bod ann par mc ml mb rt rn cb oe org co cr gn ge gd gs := by
  have vn : vp_in (nI n) 32 := vp_in_nI hn (by omega)
  have cn : (nI n).toNatClampNeg = n := nI_clamp (by omega)
  have fin : wY_step_279 post (nI n) (nI ob) (nI NC) (nI TC) (nI tc) (nI nc) fail (nI (q + 1)) ret (nI us) (nI (ob + 1)) fu res tm kY nk rcv bod ann par mc ml mb rt rn (oc_mt (oc_fi cb ob (-1) 16) ml mb ob n m) (oc_mt (oc_fi oe ob (-1) 16) ml (fun _ => e) ob n m) org co cr gn ge gd gs := by
    unfold wY_step_279
    refine ⟨vn, vp_in_nI hob (by omega), nm_e (nm_r (nI_pred q) ?_)⟩
    rw [cn, nI_clamp (n := ob) (by omega)]
    exact h
  have key2 : ∀ d i, i + d = m → ∀ f, d < f → wY_step_202 post (nI n) e (nI ob) (nI NC) (nI TC) (nI tc) (nI nc) fail (nI (q + 1)) ret (nI us) (nI (ob + 1)) fu res f (nI i) tm kY nk rcv bod ann par mc ml mb rt rn (oc_mt (oc_fi cb ob (-1) 16) ml mb ob n i) (oc_mt (oc_fi oe ob (-1) 16) ml (fun _ => e) ob n i) org co cr gn ge gd gs := by
    intro d
    induction d with
    | zero =>
      intro i hi f hf
      obtain ⟨g, rfl⟩ : ∃ g, f = g + 1 := ⟨f - 1, by omega⟩
      rw [show i = m by omega]
      refine br_c (fun _ => fin) (fun _ => ⟨vn, ?_⟩)
      rw [cn, hm]
      exact br_t (nI_le (Nat.le_refl _) (by omega)) fin
    | succ d ih =>
      intro i hi f hf
      obtain ⟨g, rfl⟩ : ∃ g, f = g + 1 := ⟨f - 1, by omega⟩
      obtain ⟨l, l1, l2⟩ := hl i (by omega)
      refine br_f (nI_ge (b := 8) (by omega) (by omega)) ⟨vn, ?_⟩
      rw [cn, hm]
      have v8 := oc_v8 hn (show i < 8 by omega)
      refine br_f (nI_ge (by omega) (by omega)) ⟨v8, ?_⟩
      rw [oc_k8 hn (by omega), l2]
      have v16 := oc_v16 hob l1
      refine nm_e ⟨v8, v16, nm_e ⟨v16, nm_e (nm_r (nI_1 i) ?_)⟩⟩
      have w := ih (i + 1) (by omega) g (by omega)
      unfold oc_mt at w
      rw [l2, nI_clamp (n := l) (by omega)] at w
      rw [oc_k16 hob l1]
      exact w
  have key : ∀ d l, l + d = 16 → wY_step_158 post (nI n) e (nI ob) (nI NC) (nI TC) (nI tc) (nI nc) fail (nI (q + 1)) ret (nI us) (nI (ob + 1)) fu res (d + 1) (nI l) tm kY nk rcv bod ann par mc ml mb rt rn (oc_fi cb ob (-1) l) (oc_fi oe ob (-1) l) org co cr gn ge gd gs := by
    intro d
    induction d with
    | zero =>
      intro l hl'
      rw [show l = 16 by omega]
      exact br_t (nI_le (a := 16) (by omega) (by omega)) ⟨m + 1, key2 m 0 (by omega) _ (by omega)⟩
    | succ d ih =>
      intro l hl'
      have v16 := oc_v16 hob (show l < 16 by omega)
      refine br_f (nI_ge (b := 16) (by omega) (by omega)) ⟨v16, nm_e ⟨v16, nm_e (nm_r (nI_1 l) ?_)⟩⟩
      rw [oc_k16 hob (by omega)]
      exact ih (l + 1) (by omega)
  exact ⟨17, key 16 0 rfl⟩
theorem oc_yud {NC TC tc nc us ob : Nat} {fail fu res : Int32} {tm kY nk rcv bod ann par mc ml mb rt rn cb oe org co cr gn ge gd gs : Nat → Int32} {post : Int32 → SY → Prop} {ret : Int32} {n l v q : Nat} {e : Int32} (hn : n < 32) (hob : ob < 32) (hv : v < ob) (hl : l < 16)
    (h : post (-1) (nI NC, nI TC, nI tc, nI nc, fail, nI q, nI ob, nI us, nI (ob + 1), fu, res, tm, kY, nk, rcv, bod, ann, par, mc, ml, mb, rt, rn, upd (oc_tc cb v ob 16) (ob * 16 + l) (bod n), upd (oc_tc oe v ob 16) (ob * 16 + l) e, upd org ob (ann n), co, cr, gn, ge, gd, gs)) :
    ∃ n526 : Nat, wY_step_526 post (nI n) e (nI v) (nI l) (nI ob) (nI NC) (nI TC) (nI tc) (nI nc) fail (nI (q + 1)) ret (nI us) (nI (ob + 1)) fu res n526 0 tm kY nk rcv bod ann par mc ml mb rt rn cb oe org co cr gn ge gd gs := by
  have vn : vp_in (nI n) 32 := vp_in_nI hn (by omega)
  have cn : (nI n).toNatClampNeg = n := nI_clamp (by omega)
  have key : ∀ d x, x + d = 16 → wY_step_526 post (nI n) e (nI v) (nI l) (nI ob) (nI NC) (nI TC) (nI tc) (nI nc) fail (nI (q + 1)) ret (nI us) (nI (ob + 1)) fu res (d + 1) (nI x) tm kY nk rcv bod ann par mc ml mb rt rn (oc_tc cb v ob x) (oc_tc oe v ob x) org co cr gn ge gd gs := by
    intro d
    induction d with
    | zero =>
      intro x hx
      rw [show x = 16 by omega]
      have v16 := oc_v16 hob hl
      refine br_t (nI_le (a := 16) (by omega) (by omega)) ⟨vn, v16, nm_e ⟨v16, nm_e ⟨vn, vp_in_nI hob (by omega), nm_e (nm_r (nI_pred q) ?_)⟩⟩⟩
      rw [cn, oc_k16 hob hl, nI_clamp (n := ob) (by omega)]
      exact h
    | succ d ih =>
      intro x hx
      have va := oc_v16 (a := v) (b := x) (by omega) (by omega)
      have vb := oc_v16 hob (show x < 16 by omega)
      refine br_f (nI_ge (b := 16) (by omega) (by omega)) ⟨va, vb, nm_e ⟨va, vb, nm_e (nm_r (nI_1 x) ?_)⟩⟩
      rw [oc_k16 hob (by omega), oc_k16 (a := v) (by omega) (by omega)]
      exact ih (x + 1) (by omega)
  exact ⟨17, key 16 0 rfl⟩
theorem oc_ys2 {NC TC tc nc us ob : Nat} {fail ret fu res : Int32} {tm kY nk rcv bod ann par mc ml mb rt rn cb oe org co cr gn ge gd gs : Nat → Int32} {post : Int32 → SY → Prop} {q : Nat} (hq : q < 64) (es : gs q = 2) (h : post (-1) (nI NC, nI TC, nI tc, nI nc, fail, nI q, ret, nI us, nI ob, fu, res, tm, kY, nk, rcv, bod, ann, par, mc, ml, mb, rt, rn, cb, oe, org, co, cr, gn, ge, gd, gs)) : wpY_step post (nI NC, nI TC, nI tc, nI nc, fail, nI (q + 1), ret, nI us, nI ob, fu, res, tm, kY, nk, rcv, bod, ann, par, mc, ml, mb, rt, rn, cb, oe, org, co, cr, gn, ge, gd, gs) := by
  have vq : vp_in (nI q) 64 := vp_in_nI hq (by omega)
  unfold wpY_step
  refine nm_r (nI_pred q) ⟨vq, ?_⟩
  rw [nI_clamp (n := q) (by omega)]
  exact nm_e ⟨vq, nm_e ⟨vq, nm_e ⟨vq, nm_r es (br_t rfl (nm_r (nI_pred q) h))⟩⟩⟩
theorem oc_ysd {NC TC tc nc us ob : Nat} {fail ret fu res : Int32} {tm kY nk rcv bod ann par mc ml mb rt rn cb oe org co cr gn ge gd gs : Nat → Int32} {post : Int32 → SY → Prop} {q : Nat} (hq : q < 64) (hq2 : 48 ≤ q) (es : gs q = 0) (ed : gd q = nI (q + 1)) (h : post 4 (nI NC, nI TC, nI tc, nI nc, fail, nI (q + 1), ret, nI us, nI ob, fu, res, tm, kY, nk, rcv, bod, ann, par, mc, ml, mb, rt, rn, cb, oe, org, co, cr, gn, ge, gd, gs)) : wpY_step post (nI NC, nI TC, nI tc, nI nc, fail, nI (q + 1), ret, nI us, nI ob, fu, res, tm, kY, nk, rcv, bod, ann, par, mc, ml, mb, rt, rn, cb, oe, org, co, cr, gn, ge, gd, gs) := by
  have vq : vp_in (nI q) 64 := vp_in_nI hq (by omega)
  unfold wpY_step
  refine nm_r (nI_pred q) ⟨vq, ?_⟩
  rw [nI_clamp (n := q) (by omega)]
  exact nm_e ⟨vq, nm_e ⟨vq, nm_r ed ⟨vq, nm_r es (br_f (by decide) (br_t rfl (br_f (nI_ge (a := 48) (b := q + 1) (by omega) (by omega)) h)))⟩⟩⟩
theorem oc_yv {NC TC tc nc us ob : Nat} {fail ret fu res : Int32} {tm kY nk rcv bod ann par mc ml mb rt rn cb oe org co cr gn ge gd gs : Nat → Int32} {post : Int32 → SY → Prop} {q n k o : Nat} (hq : q < 48) (hn : n < 32) (en : gn q = nI n) (es : gs q = 0) (ed : gd q = nI (q + 1)) (ek : kY n = 1) (el : nk n = nI k) (ho : o < 2 ^ 31)
    (hL : ∀ post : Int32 → Prop, post (nI o) → ∃ f, wY_lookup_5 post (nI k) (nI NC) (nI TC) (nI tc) (nI nc) fail (nI (q + 1)) ret (nI us) (nI ob) fu res tm kY nk rcv bod ann par mc ml mb rt rn cb oe org co cr gn ge gd gs f (ge q) 0) (h : post (-1) (nI NC, nI TC, nI tc, nI nc, fail, nI q, nI o, nI us, nI ob, fu, res, tm, kY, nk, rcv, bod, ann, par, mc, ml, mb, rt, rn, cb, oe, org, co, cr, gn, ge, gd, gs)) : wpY_step post (nI NC, nI TC, nI tc, nI nc, fail, nI (q + 1), ret, nI us, nI ob, fu, res, tm, kY, nk, rcv, bod, ann, par, mc, ml, mb, rt, rn, cb, oe, org, co, cr, gn, ge, gd, gs) := by
  have vq : vp_in (nI q) 64 := vp_in_nI (by omega) (by omega)
  have vn : vp_in (nI n) 32 := vp_in_nI hn (by omega)
  unfold wpY_step
  refine nm_r (nI_pred q) ⟨vq, ?_⟩
  rw [nI_clamp (n := q) (by omega), en]
  refine nm_e ⟨vq, nm_e ⟨vq, nm_r ed ⟨vq, nm_r es (br_f (by decide) (br_t rfl (br_t (nI_le (b := 48) (by omega) (by omega)) ⟨vn, ?_⟩)))⟩⟩⟩
  rw [nI_clamp (n := n) (by omega)]
  refine br_t ek ⟨vn, ?_⟩
  rw [el]
  exact hL _ (br_t (nI_pos' ho) (nm_r (nI_pred q) h))
theorem oc_yo {NC TC tc nc us ob : Nat} {fail ret fu res : Int32} {tm kY nk rcv bod ann par mc ml mb rt rn cb oe org co cr gn ge gd gs : Nat → Int32} {post : Int32 → SY → Prop} {q n : Nat} (hq : q < 48) (hn : n < 32) (en : gn q = nI n) (es : gs q = 0) (ed : gd q = nI (q + 1)) (ek : kY n = 2)
    (h5 : ob = 32 → post 5 (nI NC, nI TC, nI tc, nI nc, fail, nI (q + 1), ret, nI us, nI ob, fu, res, tm, kY, nk, rcv, bod, ann, par, mc, ml, mb, rt, rn, cb, oe, org, co, cr, gn, ge, gd, gs)) (h : ¬ ob = 32 → ∃ n158 : Nat, wY_step_158 post (nI n) (ge q) (nI ob) (nI NC) (nI TC) (nI tc) (nI nc) fail (nI (q + 1)) ret (nI us) (nI (ob + 1)) fu res n158 0 tm kY nk rcv bod ann par mc ml mb rt rn cb oe org co cr gn ge gd gs) (hob : ob ≤ 32) : wpY_step post (nI NC, nI TC, nI tc, nI nc, fail, nI (q + 1), ret, nI us, nI ob, fu, res, tm, kY, nk, rcv, bod, ann, par, mc, ml, mb, rt, rn, cb, oe, org, co, cr, gn, ge, gd, gs) := by
  have vq : vp_in (nI q) 64 := vp_in_nI (by omega) (by omega)
  have vn : vp_in (nI n) 32 := vp_in_nI hn (by omega)
  unfold wpY_step
  refine nm_r (nI_pred q) ⟨vq, ?_⟩
  rw [nI_clamp (n := q) (by omega), en]
  refine nm_e ⟨vq, nm_e ⟨vq, nm_r ed ⟨vq, nm_r es (br_f (by decide) (br_t rfl (br_t (nI_le (b := 48) (by omega) (by omega)) ⟨vn, ?_⟩)))⟩⟩⟩
  rw [nI_clamp (n := n) (by omega)]
  refine br_f (by rw [ek]; decide) ⟨vn, br_t ek (pk_eq ob 32 (fun e => h5 e) (fun e => nm_r (nI_1 ob) (h e)))⟩
theorem oc_yp {NC TC tc nc us ob : Nat} {fail ret fu res : Int32} {tm kY nk rcv bod ann par mc ml mb rt rn cb oe org co cr gn ge gd gs : Nat → Int32} {post : Int32 → SY → Prop} {q n : Nat} (hq : q < 48) (hn : n < 32) (en : gn q = nI n) (es : gs q = 0) (ed : gd q = nI (q + 1)) (e1 : ¬ kY n = 1) (e2 : ¬ kY n = 2)
    (h : post (-1) (nI NC, nI TC, nI tc, nI nc, fail, nI (q + 2), ret, nI us, nI ob, fu, res, tm, kY, nk, rcv, bod, ann, par, mc, ml, mb, rt, rn, cb, oe, org, co, cr, upd gn (q + 1) (rcv n), upd ge (q + 1) (ge q), upd gd (q + 1) (nI (q + 2)), upd (upd gs q 1) (q + 1) 0)) : wpY_step post (nI NC, nI TC, nI tc, nI nc, fail, nI (q + 1), ret, nI us, nI ob, fu, res, tm, kY, nk, rcv, bod, ann, par, mc, ml, mb, rt, rn, cb, oe, org, co, cr, gn, ge, gd, gs) := by
  have vq : vp_in (nI q) 64 := vp_in_nI (by omega) (by omega)
  have vn : vp_in (nI n) 32 := vp_in_nI hn (by omega)
  unfold wpY_step
  refine nm_r (nI_pred q) ⟨vq, ?_⟩
  rw [nI_clamp (n := q) (by omega), en]
  refine nm_e ⟨vq, nm_e ⟨vq, nm_r ed ⟨vq, nm_r es (br_f (by decide) (br_t rfl (br_t (nI_le (b := 48) (by omega) (by omega)) ⟨vn, ?_⟩)))⟩⟩⟩
  rw [nI_clamp (n := n) (by omega)]
  refine br_f e1 ⟨vn, br_f e2 ⟨vq, nm_e ⟨vn, ?_⟩⟩⟩
  rw [nI_1]
  exact oc_yps (by omega) h
/-- the step of a frame whose receiver is there: z tells whether it has the label -/
theorem oc_y1 {NC TC tc nc us ob : Nat} {fail fu res : Int32} {tm kY nk rcv bod ann par mc ml mb rt rn cb oe org co cr gn ge gd gs : Nat → Int32} {post : Int32 → SY → Prop} {q n l v : Nat} (hq : q < 48) (hn : n < 32) (hv : v < 32) (hl : l < 16) (en : gn q = nI n) (es : gs q = 1) (ed : gd q = nI (q + 1)) (el : nk n = nI l)
    (h0 : cb (v * 16 + l) = -1 → wY_step_381 post (nI q) (nI n) (ge q) (nI (q + 1)) (nI v) (nI l) 0 (nI NC) (nI TC) (nI tc) (nI nc) fail (nI (q + 1)) (nI v) (nI us) (nI ob) fu res tm kY nk rcv bod ann par mc ml mb rt rn cb oe org co cr gn ge gd gs) (h1 : ¬ cb (v * 16 + l) = -1 → wY_step_381 post (nI q) (nI n) (ge q) (nI (q + 1)) (nI v) (nI l) 1 (nI NC) (nI TC) (nI tc) (nI nc) fail (nI (q + 1)) (nI v) (nI us) (nI ob) fu res tm kY nk rcv bod ann par mc ml mb rt rn cb oe org co cr gn ge gd gs) : wpY_step post (nI NC, nI TC, nI tc, nI nc, fail, nI (q + 1), nI v, nI us, nI ob, fu, res, tm, kY, nk, rcv, bod, ann, par, mc, ml, mb, rt, rn, cb, oe, org, co, cr, gn, ge, gd, gs) := by
  have vq : vp_in (nI q) 64 := vp_in_nI (by omega) (by omega)
  have vn : vp_in (nI n) 32 := vp_in_nI hn (by omega)
  unfold wpY_step
  refine nm_r (nI_pred q) ⟨vq, ?_⟩
  rw [nI_clamp (n := q) (by omega), en]
  refine nm_e ⟨vq, nm_e ⟨vq, nm_r ed ⟨vq, nm_r es (br_f (by decide) (br_f (by decide) ⟨vn, ?_⟩))⟩⟩⟩
  rw [nI_clamp (n := n) (by omega), el]
  refine nm_e (br_f (nI_pos (by omega)) (br_f (nI_ge (b := 32) hv (by omega)) ⟨oc_v16 hv hl, ?_⟩))
  rw [oc_k16 hv hl]
  exact br_c (fun z => h0 z) (fun z => h1 z)
theorem oc_y1s {NC TC tc nc us ob : Nat} {fail res : Int32} {tm kY nk rcv bod ann par mc ml mb rt rn cb oe org co cr gn ge gd gs : Nat → Int32} {post : Int32 → SY → Prop} {F q n l v : Nat} {e z : Int32} (hF : F ≤ 128) (hus : us ≤ F) (hq : q < 48) (hn : n < 32) (hv : v < 32) (hl : l < 16) (ek : kY n = 3)
    (h1 : z = 0 → post 1 (nI NC, nI TC, nI tc, nI nc, fail, nI (q + 1), nI v, nI us, nI ob, nI F, res, tm, kY, nk, rcv, bod, ann, par, mc, ml, mb, rt, rn, cb, oe, org, co, cr, gn, ge, gd, gs)) (h3 : ¬ z = 0 → us = F → post 3 (nI NC, nI TC, nI tc, nI nc, fail, nI (q + 1), nI v, nI us, nI ob, nI F, res, tm, kY, nk, rcv, bod, ann, par, mc, ml, mb, rt, rn, cb, oe, org, co, cr, gn, ge, gd, gs))
    (h : ¬ z = 0 → us < F → post (-1) (nI NC, nI TC, nI tc, nI nc, fail, nI (q + 2), nI v, nI (us + 1), nI ob, nI F, res, tm, kY, nk, rcv, bod, ann, par, mc, ml, mb, rt, rn, cb, oe, org, upd co us (nI v), upd cr us (oe (v * 16 + l)), upd gn (q + 1) (cb (v * 16 + l)), upd ge (q + 1) (nI us), upd gd (q + 1) (nI (q + 2)), upd (upd gs q 2) (q + 1) 0)) :
    wY_step_381 post (nI q) (nI n) e (nI (q + 1)) (nI v) (nI l) z (nI NC) (nI TC) (nI tc) (nI nc) fail (nI (q + 1)) (nI v) (nI us) (nI ob) (nI F) res tm kY nk rcv bod ann par mc ml mb rt rn cb oe org co cr gn ge gd gs := by
  have vq : vp_in (nI q) 64 := vp_in_nI (by omega) (by omega)
  have vn : vp_in (nI n) 32 := vp_in_nI hn (by omega)
  have v16 := oc_v16 hv hl
  unfold wY_step_381
  refine ⟨vn, ?_⟩
  rw [nI_clamp (n := n) (by omega)]
  refine br_t ek (br_c (fun z0 => h1 z0) (fun z0 => pk_eq us F (fun e => h3 z0 e) (fun e => nm_r (nI_1 us) ?_)))
  have vu : vp_in (nI us) 128 := vp_in_nI (by omega) (by omega)
  refine ⟨vu, nm_e ⟨v16, vu, nm_e ⟨vq, nm_e ⟨v16, ?_⟩⟩⟩⟩
  rw [nI_clamp (n := us) (by omega), nI_clamp (n := q) (by omega), oc_k16 hv hl, nI_1]
  exact oc_yps (by omega) (h z0 (by omega))
theorem oc_y1u {NC TC tc nc us ob : Nat} {fail fu res : Int32} {tm kY nk rcv bod ann par mc ml mb rt rn cb oe org co cr gn ge gd gs : Nat → Int32} {post : Int32 → SY → Prop} {q n l v : Nat} {e z : Int32} (hob : ob ≤ 32) (hq : q < 48) (hn : n < 32) (hv : v < ob) (hl : l < 16) (ek : ¬ kY n = 3)
    (h2 : z = 0 → post 2 (nI NC, nI TC, nI tc, nI nc, fail, nI (q + 1), nI v, nI us, nI ob, fu, res, tm, kY, nk, rcv, bod, ann, par, mc, ml, mb, rt, rn, cb, oe, org, co, cr, gn, ge, gd, gs)) (h5 : ¬ z = 0 → ob = 32 → post 5 (nI NC, nI TC, nI tc, nI nc, fail, nI (q + 1), nI v, nI us, nI ob, fu, res, tm, kY, nk, rcv, bod, ann, par, mc, ml, mb, rt, rn, cb, oe, org, co, cr, gn, ge, gd, gs))
    (h : ¬ z = 0 → ob < 32 → post (-1) (nI NC, nI TC, nI tc, nI nc, fail, nI q, nI ob, nI us, nI (ob + 1), fu, res, tm, kY, nk, rcv, bod, ann, par, mc, ml, mb, rt, rn, upd (oc_tc cb v ob 16) (ob * 16 + l) (bod n), upd (oc_tc oe v ob 16) (ob * 16 + l) e, upd org ob (ann n), co, cr, gn, ge, gd, gs)) :
    wY_step_381 post (nI q) (nI n) e (nI (q + 1)) (nI v) (nI l) z (nI NC) (nI TC) (nI tc) (nI nc) fail (nI (q + 1)) (nI v) (nI us) (nI ob) fu res tm kY nk rcv bod ann par mc ml mb rt rn cb oe org co cr gn ge gd gs := by
  have vn : vp_in (nI n) 32 := vp_in_nI hn (by omega)
  unfold wY_step_381
  refine ⟨vn, ?_⟩
  rw [nI_clamp (n := n) (by omega)]
  exact br_f ek (br_c (fun z0 => h2 z0) (fun z0 => pk_eq ob 32 (fun e => h5 z0 e) (fun e => nm_r (nI_1 ob) (oc_yud hn (by omega) hv hl (h z0 (by omega))))))
