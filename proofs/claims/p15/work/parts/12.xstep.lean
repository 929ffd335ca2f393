theorem oc_xlv {NC TC tc nc us ob : Nat} {fail res fl val : Int32} {tm mk kd par num ann rcv bod mc ml mb cd cb ce org co cr fn fe fp : Nat → Int32} {post : Int32 → St2 → Prop} {q : Nat} {o : Int32} (h : post 0 (nI NC, nI TC, nI tc, nI nc, fail, res, fl, nI us, nI ob, nI q, o, tm, mk, kd, par, num, ann, rcv, bod, mc, ml, mb, cd, cb, ce, org, co, cr, fn, fe, fp)) : wpX_leaveWith post (nI NC, nI TC, nI tc, nI nc, fail, res, fl, nI us, nI ob, nI (q + 1), val, tm, mk, kd, par, num, ann, rcv, bod, mc, ml, mb, cd, cb, ce, org, co, cr, fn, fe, fp) o := nm_r (nI_pred q) h
theorem oc_xen1 {NC TC tc nc us ob : Nat} {fail res fl val : Int32} {tm mk kd par num ann rcv bod mc ml mb cd cb ce org co cr fn fe fp : Nat → Int32} {post : Int32 → St2 → Prop} {q : Nat} {n e : Int32} (hq : q < 48) (h : post 0 (nI NC, nI TC, nI tc, nI nc, fail, res, fl, nI us, nI ob, nI (q + 1), val, tm, mk, kd, par, num, ann, rcv, bod, mc, ml, mb, cd, cb, ce, org, co, cr, upd fn q n, upd fe q e, upd fp q 0)) : wpX_enter post (nI NC, nI TC, nI tc, nI nc, fail, res, fl, nI us, nI ob, nI q, val, tm, mk, kd, par, num, ann, rcv, bod, mc, ml, mb, cd, cb, ce, org, co, cr, fn, fe, fp) n e := by
  have vq : vp_in (nI q) 48 := vp_in_nI hq (by omega)
  unfold wpX_enter
  refine br_t (nI_lt (b := 48) hq (by omega)) ⟨vq, nm_e ⟨vq, nm_e ⟨vq, nm_e (nm_e ?_)⟩⟩⟩
  rw [nI_clamp (n := q) (by omega), nI_1]
  exact h
theorem oc_xen0 {NC TC tc nc us ob : Nat} {fail res fl val : Int32} {tm mk kd par num ann rcv bod mc ml mb cd cb ce org co cr fn fe fp : Nat → Int32} {post : Int32 → St2 → Prop} {q : Nat} {n e : Int32} (hq : 48 ≤ q) (hq2 : q < 2 ^ 31) (h : post 4 (nI NC, nI TC, nI tc, nI nc, fail, res, fl, nI us, nI ob, nI q, val, tm, mk, kd, par, num, ann, rcv, bod, mc, ml, mb, cd, cb, ce, org, co, cr, fn, fe, fp)) : wpX_enter post (nI NC, nI TC, nI tc, nI nc, fail, res, fl, nI us, nI ob, nI q, val, tm, mk, kd, par, num, ann, rcv, bod, mc, ml, mb, cd, cb, ce, org, co, cr, fn, fe, fp) n e := by
  unfold wpX_enter
  exact br_f (nI_nlt (b := 48) hq hq2) h
/-- a new object from a literal -/
theorem oc_xob {NC TC tc nc us ob : Nat} {fail res fl val : Int32} {tm mk kd par num ann rcv bod mc ml mb cd cb ce org co cr fn fe fp : Nat → Int32} {post : Int32 → St2 → Prop} {q n m : Nat} {e : Int32} (hn : n < 32) (hob : ob < 32) (hm : mc n = nI m) (hm8 : m ≤ 8) (hl : ∀ i, i < m → ∃ l, l < 16 ∧ ml (n * 8 + i) = nI l)
    (h : post 0 (nI NC, nI TC, nI tc, nI nc, fail, res, fl, nI us, nI (ob + 1), nI q, nI ob, tm, mk, kd, par, num, ann, rcv, bod, mc, ml, mb, cd, oc_mt (oc_fi cb ob (-1) 16) ml mb ob n m, oc_mt ce ml (fun _ => e) ob n m, upd org ob (ann n), co, cr, fn, fe, fp)) : wpX_advanceObject post (nI NC, nI TC, nI tc, nI nc, fail, res, fl, nI us, nI ob, nI (q + 1), val, tm, mk, kd, par, num, ann, rcv, bod, mc, ml, mb, cd, cb, ce, org, co, cr, fn, fe, fp) (nI n) e := by
  have vn : vp_in (nI n) 32 := vp_in_nI hn (by omega)
  have cn : (nI n).toNatClampNeg = n := nI_clamp (by omega)
  have key2 : ∀ d i, i + d = m → wX_advanceObject_70 post (nI n) e (nI ob) (nI NC) (nI TC) (nI tc) (nI nc) fail res fl (nI us) (nI (ob + 1)) (nI (q + 1)) val (d + 1) (nI i) tm mk kd par num ann rcv bod mc ml mb cd (oc_mt (oc_fi cb ob (-1) 16) ml mb ob n i) (oc_mt ce ml (fun _ => e) ob n i) (upd org ob (ann n)) co cr fn fe fp := by
    intro d
    induction d with
    | zero =>
      intro i hi
      refine ⟨vn, ?_⟩
      rw [cn, hm, show i = m by omega]
      exact br_t (nI_le (Nat.le_refl _) (by omega)) (oc_xlv h)
    | succ d ih =>
      intro i hi
      obtain ⟨l, l1, l2⟩ := hl i (by omega)
      refine ⟨vn, ?_⟩
      rw [cn, hm]
      refine br_f (nI_ge (by omega) (by omega)) (nm_r (oc_i8 n i) ?_)
      have v8 : vp_in (nI (n * 8 + i)) 256 := vp_in_nI (by omega) (by omega)
      refine ⟨v8, ?_⟩
      rw [nI_clamp (n := n * 8 + i) (by omega), l2]
      refine nm_r (oc_i16 ob l) ⟨v8, ?_⟩
      have v16 : vp_in (nI (ob * 16 + l)) 512 := vp_in_nI (by omega) (by omega)
      refine ⟨v16, nm_e ⟨v16, nm_e (nm_r (nI_1 i) ?_)⟩⟩
      have g := ih (i + 1) (by omega)
      unfold oc_mt at g
      rw [l2, nI_clamp (n := l) (by omega)] at g
      rw [nI_clamp (n := ob * 16 + l) (by omega)]
      exact g
  have key : ∀ d l, l + d = 16 → wX_advanceObject_41 post (nI n) e (nI ob) (nI NC) (nI TC) (nI tc) (nI nc) fail res fl (nI us) (nI (ob + 1)) (nI (q + 1)) val (d + 1) (nI l) tm mk kd par num ann rcv bod mc ml mb cd (oc_fi cb ob (-1) l) ce (upd org ob (ann n)) co cr fn fe fp := by
    intro d
    induction d with
    | zero =>
      intro l hl'
      rw [show l = 16 by omega]
      exact br_t (nI_le (a := 16) (by omega) (by omega)) ⟨m + 1, key2 m 0 (by omega)⟩
    | succ d ih =>
      intro l hl'
      refine br_f (nI_ge (b := 16) (by omega) (by omega)) ⟨oc_v16 hob (by omega), nm_e (nm_r (nI_1 l) ?_)⟩
      rw [oc_k16 hob (by omega)]
      exact ih (l + 1) (by omega)
  unfold wpX_advanceObject
  refine br_t (nI_lt (b := 32) hob (by omega)) (nm_r (nI_1 ob) ⟨vn, vp_in_nI hob (by omega), nm_e ?_⟩)
  rw [cn, nI_clamp (n := ob) (by omega)]
  exact ⟨17, key 16 0 rfl⟩
/-- a new object from an update -/
theorem oc_xud {NC TC tc nc us ob : Nat} {fail res fl : Int32} {tm mk kd par num ann rcv bod mc ml mb cd cb ce org co cr fn fe fp : Nat → Int32} {post : Int32 → St2 → Prop} {n l v q : Nat} {e : Int32} (hn : n < 32) (hob : ob < 32) (hv : v < ob) (hl : l < 16) (el : num n = nI l)
    (h : post 0 (nI NC, nI TC, nI tc, nI nc, fail, res, fl, nI us, nI (ob + 1), nI q, nI ob, tm, mk, kd, par, num, ann, rcv, bod, mc, ml, mb, cd, upd (oc_tc cb v ob 16) (ob * 16 + l) (bod n), upd (oc_tc ce v ob 16) (ob * 16 + l) e, upd org ob (ann n), co, cr, fn, fe, fp)) :
    ∃ n96 : Nat, wX_advanceUpdate_96 post (nI n) e (nI ob) (nI NC) (nI TC) (nI tc) (nI nc) fail res fl (nI us) (nI (ob + 1)) (nI (q + 1)) (nI v) n96 0 tm mk kd par num ann rcv bod mc ml mb cd cb ce (upd org ob (ann n)) co cr fn fe fp := by
  have vn : vp_in (nI n) 32 := vp_in_nI hn (by omega)
  have cn : (nI n).toNatClampNeg = n := nI_clamp (by omega)
  have key : ∀ d x, x + d = 16 → wX_advanceUpdate_96 post (nI n) e (nI ob) (nI NC) (nI TC) (nI tc) (nI nc) fail res fl (nI us) (nI (ob + 1)) (nI (q + 1)) (nI v) (d + 1) (nI x) tm mk kd par num ann rcv bod mc ml mb cd (oc_tc cb v ob x) (oc_tc ce v ob x) (upd org ob (ann n)) co cr fn fe fp := by
    intro d
    induction d with
    | zero =>
      intro x hx
      rw [show x = 16 by omega]
      refine br_t (nI_le (a := 16) (by omega) (by omega)) ⟨vn, ?_⟩
      rw [cn, el]
      have v16 : vp_in (nI (ob * 16 + l)) 512 := vp_in_nI (by omega) (by omega)
      refine nm_r (oc_i16 ob l) ⟨vn, v16, nm_e ⟨v16, nm_e ?_⟩⟩
      rw [nI_clamp (n := ob * 16 + l) (by omega)]
      exact oc_xlv h
    | succ d ih =>
      intro x hx
      refine br_f (nI_ge (b := 16) (by omega) (by omega)) ⟨oc_v16 (by omega) (by omega), oc_v16 hob (by omega), nm_e ⟨oc_v16 (by omega) (by omega), oc_v16 hob (by omega), nm_e (nm_r (nI_1 x) ?_)⟩⟩
      rw [oc_k16 hob (by omega), oc_k16 (a := v) (by omega) (by omega)]
      exact ih (x + 1) (by omega)
  exact ⟨17, key 16 0 rfl⟩
theorem oc_xa0 {NC TC tc nc us ob : Nat} {fail res fl val : Int32} {tm mk kd par num ann rcv bod mc ml mb cd cb ce org co cr fn fe fp : Nat → Int32} {post : Int32 → St2 → Prop} {q n : Nat} (hq : q < 48) (hn : n < 32) (en : fn q = nI n) (ek : kd n = 0) (h : ∃ f, wX_advanceVariable_5 post (nI n) (nI NC) (nI TC) (nI tc) (nI nc) fail res fl (nI us) (nI ob) (nI (q + 1)) val tm mk kd par num ann rcv bod mc ml mb cd cb ce org co cr fn fe fp f (fe q) 0) : wpX_advance post (nI NC, nI TC, nI tc, nI nc, fail, res, fl, nI us, nI ob, nI (q + 1), val, tm, mk, kd, par, num, ann, rcv, bod, mc, ml, mb, cd, cb, ce, org, co, cr, fn, fe, fp) := by
  have vq : vp_in (nI q) 48 := vp_in_nI hq (by omega)
  have vn : vp_in (nI n) 32 := vp_in_nI hn (by omega)
  unfold wpX_advance
  refine nm_r (nI_pred q) ⟨vq, ?_⟩
  rw [nI_clamp (n := q) (by omega), en]
  refine nm_e ⟨vq, nm_e ⟨vn, ?_⟩⟩
  rw [nI_clamp (n := n) (by omega)]
  exact nm_r ek (br_f (by decide) (br_f (by decide) (br_t rfl h)))
theorem oc_xa1 {NC TC tc nc us ob : Nat} {fail res fl val : Int32} {tm mk kd par num ann rcv bod mc ml mb cd cb ce org co cr fn fe fp : Nat → Int32} {post : Int32 → St2 → Prop} {q n : Nat} (hq : q < 48) (hn : n < 32) (en : fn q = nI n) (ek : kd n = 1) (h : wpX_advanceObject post (nI NC, nI TC, nI tc, nI nc, fail, res, fl, nI us, nI ob, nI (q + 1), val, tm, mk, kd, par, num, ann, rcv, bod, mc, ml, mb, cd, cb, ce, org, co, cr, fn, fe, fp) (nI n) (fe q)) : wpX_advance post (nI NC, nI TC, nI tc, nI nc, fail, res, fl, nI us, nI ob, nI (q + 1), val, tm, mk, kd, par, num, ann, rcv, bod, mc, ml, mb, cd, cb, ce, org, co, cr, fn, fe, fp) := by
  have vq : vp_in (nI q) 48 := vp_in_nI hq (by omega)
  have vn : vp_in (nI n) 32 := vp_in_nI hn (by omega)
  unfold wpX_advance
  refine nm_r (nI_pred q) ⟨vq, ?_⟩
  rw [nI_clamp (n := q) (by omega), en]
  refine nm_e ⟨vq, nm_e ⟨vn, ?_⟩⟩
  rw [nI_clamp (n := n) (by omega)]
  exact nm_r ek (br_f (by decide) (br_f (by decide) (br_f (by decide) (br_t rfl h))))
theorem oc_xa2 {NC TC tc nc us ob : Nat} {fail res fl val : Int32} {tm mk kd par num ann rcv bod mc ml mb cd cb ce org co cr fn fe fp : Nat → Int32} {post : Int32 → St2 → Prop} {q n : Nat} (hq : q < 48) (hn : n < 32) (en : fn q = nI n) (ek : kd n = 2) (h : wpX_advanceSelect post (nI NC, nI TC, nI tc, nI nc, fail, res, fl, nI us, nI ob, nI (q + 1), val, tm, mk, kd, par, num, ann, rcv, bod, mc, ml, mb, cd, cb, ce, org, co, cr, fn, fe, fp) (nI n) (fe q) (nI q)) : wpX_advance post (nI NC, nI TC, nI tc, nI nc, fail, res, fl, nI us, nI ob, nI (q + 1), val, tm, mk, kd, par, num, ann, rcv, bod, mc, ml, mb, cd, cb, ce, org, co, cr, fn, fe, fp) := by
  have vq : vp_in (nI q) 48 := vp_in_nI hq (by omega)
  have vn : vp_in (nI n) 32 := vp_in_nI hn (by omega)
  unfold wpX_advance
  refine nm_r (nI_pred q) ⟨vq, ?_⟩
  rw [nI_clamp (n := q) (by omega), en]
  refine nm_e ⟨vq, nm_e ⟨vn, ?_⟩⟩
  rw [nI_clamp (n := n) (by omega)]
  exact nm_r ek (br_f (by decide) (br_f (by decide) (br_f (by decide) (br_f (by decide) (br_t rfl h)))))
theorem oc_xa3 {NC TC tc nc us ob : Nat} {fail res fl val : Int32} {tm mk kd par num ann rcv bod mc ml mb cd cb ce org co cr fn fe fp : Nat → Int32} {post : Int32 → St2 → Prop} {q n : Nat} (hq : q < 48) (hn : n < 32) (en : fn q = nI n) (ek : kd n = 3) (h : wpX_advanceUpdate post (nI NC, nI TC, nI tc, nI nc, fail, res, fl, nI us, nI ob, nI (q + 1), val, tm, mk, kd, par, num, ann, rcv, bod, mc, ml, mb, cd, cb, ce, org, co, cr, fn, fe, fp) (nI n) (fe q) (nI q)) : wpX_advance post (nI NC, nI TC, nI tc, nI nc, fail, res, fl, nI us, nI ob, nI (q + 1), val, tm, mk, kd, par, num, ann, rcv, bod, mc, ml, mb, cd, cb, ce, org, co, cr, fn, fe, fp) := by
  have vq : vp_in (nI q) 48 := vp_in_nI hq (by omega)
  have vn : vp_in (nI n) 32 := vp_in_nI hn (by omega)
  unfold wpX_advance
  refine nm_r (nI_pred q) ⟨vq, ?_⟩
  rw [nI_clamp (n := q) (by omega), en]
  refine nm_e ⟨vq, nm_e ⟨vn, ?_⟩⟩
  rw [nI_clamp (n := n) (by omega)]
  exact nm_r ek (br_f (by decide) (br_t (by decide) h))
