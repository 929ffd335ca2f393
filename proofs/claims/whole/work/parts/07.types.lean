/-! types: subtyping, extension, counting of labels -/
theorem oc_xfl {NC TC tc nc us ob : Nat} {fail res fl fc val : Int32} {tm mk kd par num ann rcv bod mc ml mb cd cb ce org co cr fn fe fp : Nat → Int32} {post : Int32 → Prop} {a b : Nat} (ha : a < 32) (hb : b < 32) : ∀ d l, l + d = 16 →
    ((∀ l', l ≤ l' → l' < 16 → tm (b * 16 + l') = -1 ∨ tm (a * 16 + l') = tm (b * 16 + l')) → post 1) →
    ((¬ ∀ l', l ≤ l' → l' < 16 → tm (b * 16 + l') = -1 ∨ tm (a * 16 + l') = tm (b * 16 + l')) → post 0) →
    wX_fits_19 post (nI a) (nI b) (nI NC) (nI TC) (nI tc) (nI nc) fail res fl (nI us) (nI ob) fc val tm mk kd par num ann rcv bod mc ml mb cd cb ce org co cr fn fe fp (d + 1) (nI l) := by
  intro d
  induction d with
  | zero =>
    intro l hl h1 h0
    exact br_t (nI_le (a := 16) (by omega) (by omega)) (h1 fun l' x y => by omega)
  | succ d ih =>
    intro l hl h1 h0
    refine br_f (nI_ge (b := 16) (by omega) (by omega)) ⟨oc_v16 hb (by omega), nm_r (congrArg tm (oc_k16 hb (by omega))) ?_⟩
    by_cases z : tm (b * 16 + l) = -1
    · refine br_t z (nm_r (nI_1 l) (ih (l + 1) (by omega) (fun q => h1 fun l' x y => ?_) (fun q => h0 fun w => q fun l' x y => w l' (by omega) y)))
      by_cases e : l' = l
      · rw [e]; exact Or.inl z
      · exact q l' (by omega) y
    · refine br_f z ⟨oc_v16 ha (by omega), ?_⟩
      by_cases y : tm (a * 16 + l) = tm (b * 16 + l)
      · refine br_t (by rw [oc_k16 ha (by omega)]; exact y) (nm_r (nI_1 l) (ih (l + 1) (by omega) (fun q => h1 fun l' x y' => ?_) (fun q => h0 fun w => q fun l' x y' => w l' (by omega) y')))
        by_cases e : l' = l
        · rw [e]; exact Or.inr y
        · exact q l' (by omega) y'
      · exact br_f (by rw [oc_k16 ha (by omega)]; exact y) (h0 fun w => (w l (Nat.le_refl _) (by omega)).elim z y)
theorem oc_yfl {NC TC tc nc us ob : Nat} {fail sp ret fu res : Int32} {tm kY nk rcv bod ann par mc ml mb rt rn cb oe org co cr gn ge gd gs : Nat → Int32} {post : Int32 → Prop} {a b : Nat} (ha : a < 32) (hb : b < 32) : ∀ d l, l + d = 16 →
    ((∀ l', l ≤ l' → l' < 16 → tm (b * 16 + l') = -1 ∨ tm (a * 16 + l') = tm (b * 16 + l')) → post 1) →
    ((¬ ∀ l', l ≤ l' → l' < 16 → tm (b * 16 + l') = -1 ∨ tm (a * 16 + l') = tm (b * 16 + l')) → post 0) →
    wY_isSubtype_37 post (nI a) (nI b) (nI NC) (nI TC) (nI tc) (nI nc) fail sp ret (nI us) (nI ob) fu res tm kY nk rcv bod ann par mc ml mb rt rn cb oe org co cr gn ge gd gs (d + 1) (nI l) := by
  intro d
  induction d with
  | zero =>
    intro l hl h1 h0
    exact br_t (nI_le (a := 16) (by omega) (by omega)) (h1 fun l' x y => by omega)
  | succ d ih =>
    intro l hl h1 h0
    refine br_f (nI_ge (b := 16) (by omega) (by omega)) ⟨oc_v16 hb (by omega), nm_r (congrArg tm (oc_k16 hb (by omega))) ?_⟩
    by_cases z : tm (b * 16 + l) = -1
    · refine br_t z (nm_r (nI_1 l) (ih (l + 1) (by omega) (fun q => h1 fun l' x y => ?_) (fun q => h0 fun w => q fun l' x y => w l' (by omega) y)))
      by_cases e : l' = l
      · rw [e]; exact Or.inl z
      · exact q l' (by omega) y
    · refine br_f z ⟨oc_v16 ha (by omega), ?_⟩
      by_cases y : tm (a * 16 + l) = tm (b * 16 + l)
      · refine br_t (by rw [oc_k16 ha (by omega)]; exact y) (nm_r (nI_1 l) (ih (l + 1) (by omega) (fun q => h1 fun l' x y' => ?_) (fun q => h0 fun w => q fun l' x y' => w l' (by omega) y')))
        by_cases e : l' = l
        · rw [e]; exact Or.inr y
        · exact q l' (by omega) y'
      · exact br_f (by rw [oc_k16 ha (by omega)]; exact y) (h0 fun w => (w l (Nat.le_refl _) (by omega)).elim z y)
theorem oc_xfits {NC TC tc nc us ob : Nat} {fail res fl fc val : Int32} {tm mk kd par num ann rcv bod mc ml mb cd cb ce org co cr fn fe fp : Nat → Int32} {post : Int32 → Prop} {a b : Nat} (ha : a < 32) (hb : b < 32) (h1 : oc_sub tm a b → post 1) (h0 : ¬ oc_sub tm a b → post 0) : wpX_fits post (nI NC, nI TC, nI tc, nI nc, fail, res, fl, nI us, nI ob, fc, val, tm, mk, kd, par, num, ann, rcv, bod, mc, ml, mb, cd, cb, ce, org, co, cr, fn, fe, fp) (nI a) (nI b) := by
  refine pk_eq a b (fun e => h1 (Or.inl e)) (fun e => pk_eq b 0 (fun e0 => h1 (Or.inr (Or.inl e0))) (fun e0 => pk_eq a 0 (fun ea => h0 fun q => ?_) (fun ea => ⟨17, ?_⟩)))
  · rcases q with q | q | q
    · exact e q
    · exact e0 q
    · exact q.1 ea
  · refine oc_xfl ha hb 16 0 (by omega) (fun q => h1 (Or.inr (Or.inr ⟨ea, fun l hl => q l (Nat.zero_le _) hl⟩))) (fun q => h0 fun w => ?_)
    rcases w with w | w | w
    · exact e w
    · exact e0 w
    · exact q fun l _ hl => w.2 l hl
theorem oc_ysub {NC TC tc nc us ob : Nat} {fail sp ret fu res : Int32} {tm kY nk rcv bod ann par mc ml mb rt rn cb oe org co cr gn ge gd gs : Nat → Int32} {post : Int32 → Prop} {a b : Nat} (ht : tc ≤ 32) (ha : a < tc) (hb : b < tc) (h1 : oc_sub tm a b → post 1) (h0 : ¬ oc_sub tm a b → post 0) : wpY_isSubtype post (nI NC, nI TC, nI tc, nI nc, fail, sp, ret, nI us, nI ob, fu, res, tm, kY, nk, rcv, bod, ann, par, mc, ml, mb, rt, rn, cb, oe, org, co, cr, gn, ge, gd, gs) (nI a) (nI b) := by
  unfold wpY_isSubtype
  refine oc_yT1 ha ht (oc_yT1 hb ht ?_)
  refine pk_eq a b (fun e => h1 (Or.inl e)) (fun e => pk_eq b 0 (fun e0 => h1 (Or.inr (Or.inl e0))) (fun e0 => pk_eq a 0 (fun ea => h0 fun q => ?_) (fun ea => ⟨17, ?_⟩)))
  · rcases q with q | q | q
    · exact e q
    · exact e0 q
    · exact q.1 ea
  · refine oc_yfl (by omega) (by omega) 16 0 (by omega) (fun q => h1 (Or.inr (Or.inr ⟨ea, fun l hl => q l (Nat.zero_le _) hl⟩))) (fun q => h0 fun w => ?_)
    rcases w with w | w | w
    · exact e w
    · exact e0 w
    · exact q fun l _ hl => w.2 l hl
theorem i_vc_isSubtype {k : Nat} {u : SX} {v : SY} (I : i_Rel k u v) (hk : k + 5 ≤ 2562) (v1 : Int32) (v2 : Int32) : wpX_isSubtype (fun r => wpY_isSubtype (fun r' => r' = r ∧ i_Rel (k + 5) u v) v v1 v2) u v1 v2 := by
  have J : i_Rel (k + 5) u v := I
  obtain ⟨NC, TC, tc, nc, us, ob, fail, res, fl, fc, val, sp, ret, fu, tm, mk, kd, par, num, ann, rcv, bod, mc, ml, mb, cd, cb, ce, org, co, cr, fn, fe, fp, kY, nk, rt, rn, oe, gn, ge, gd, gs, rfl, rfl, h1, h2, h3, h4, h5, h6, h7, hN, hT, hm, hK, hr⟩ := I
  unfold wpX_isSubtype
  rcases oc_ix v1 (n := tc) (by omega) with a | ⟨a, ha, rfl⟩
  · refine oc_xT0 a ?_
    unfold wpY_isSubtype
    exact oc_yT0 a ⟨rfl, J⟩
  · refine oc_xT1 ha (by omega) ?_
    rcases oc_ix v2 (n := tc) (by omega) with b | ⟨b, hb, rfl⟩
    · refine oc_xT0 b ?_
      unfold wpY_isSubtype
      exact oc_yT1 ha (by omega) (oc_yT0 b ⟨rfl, J⟩)
    · refine oc_xT1 hb (by omega) (oc_xfits (by omega) (by omega) (fun s => br_f oc_10 ?_) (fun s => br_t rfl ?_))
      · exact oc_ysub (by omega) ha hb (fun _ => ⟨rfl, J⟩) (fun q => absurd s q)
      · exact oc_ysub (by omega) ha hb (fun q => absurd q s) (fun _ => ⟨rfl, J⟩)
theorem i_vc_typeMember {k : Nat} {u : SX} {v : SY} (I : i_Rel k u v) (hk : k + 5 ≤ 2562) (v1 : Int32) (v2 : Int32) : wpX_typeMember (fun r => wpY_typeMember (fun r' => r' = r ∧ i_Rel (k + 5) u v) v v1 v2) u v1 v2 := by
  have J : i_Rel (k + 5) u v := I
  obtain ⟨NC, TC, tc, nc, us, ob, fail, res, fl, fc, val, sp, ret, fu, tm, mk, kd, par, num, ann, rcv, bod, mc, ml, mb, cd, cb, ce, org, co, cr, fn, fe, fp, kY, nk, rt, rn, oe, gn, ge, gd, gs, rfl, rfl, h1, h2, h3, h4, h5, h6, h7, hN, hT, hm, hK, hr⟩ := I
  unfold wpX_typeMember
  rcases oc_ix v1 (n := tc) (by omega) with a | ⟨a, ha, rfl⟩
  · refine oc_xT0 a ?_
    unfold wpY_typeMember
    exact oc_yT0 a ⟨rfl, J⟩
  · refine oc_xT1 ha (by omega) ?_
    rcases oc_ix v2 (n := 16) (by omega) with b | ⟨b, hb, rfl⟩
    · refine oc_xL0 b ?_
      unfold wpY_typeMember
      exact oc_yT1 ha (by omega) (br_c (fun _ => ⟨rfl, J⟩) (fun _ => oc_lb0 b ⟨rfl, J⟩))
    · refine oc_xL1 hb ⟨oc_v16 (by omega) hb, ?_⟩
      unfold wpY_typeMember
      refine oc_yT1 ha (by omega) (pk_eq a 0 (fun e => ?_) (fun e => oc_lb1 hb ⟨oc_v16 (by omega) hb, rfl, J⟩))
      refine ⟨?_, J⟩
      rw [oc_k16 (by omega) hb, e, Nat.zero_mul, Nat.zero_add, hT.1 b hb]
/-! a type's extension -/
def oc_ext (tm : Nat → Int32) (t l m i : Nat) : Prop := tm (i * 16 + l) = nI m ∧ ∀ j, j < 16 → j ≠ l → tm (i * 16 + j) = tm (t * 16 + j)
theorem oc_xel {NC TC tc nc us ob : Nat} {fail res fl fc val : Int32} {tm mk kd par num ann rcv bod mc ml mb cd cb ce org co cr fn fe fp : Nat → Int32} {post : Int32 → Prop} {t l m i : Nat} (ht : t < 32) (hl : l < 16) (hi : i < 32) : ∀ d x, x + d = 16 →
    ((∀ j, x ≤ j → j < 16 → (j = l → tm (i * 16 + l) = nI m) ∧ (j ≠ l → tm (i * 16 + j) = tm (t * 16 + j))) → post 1) →
    ((¬ ∀ j, x ≤ j → j < 16 → (j = l → tm (i * 16 + l) = nI m) ∧ (j ≠ l → tm (i * 16 + j) = tm (t * 16 + j))) → post 0) →
    wX_isExtension_3 post (nI i) (nI t) (nI l) (nI m) (nI NC) (nI TC) (nI tc) (nI nc) fail res fl (nI us) (nI ob) fc val tm mk kd par num ann rcv bod mc ml mb cd cb ce org co cr fn fe fp (d + 1) (nI x) := by
  intro d
  induction d with
  | zero =>
    intro x hx h1 h0
    exact br_t (nI_le (a := 16) (by omega) (by omega)) (h1 fun l' x y => by omega)
  | succ d ih =>
    intro x hx h1 h0
    refine br_f (nI_ge (b := 16) (by omega) (by omega)) (pk_eq x l (fun e => ⟨oc_v16 hi (by omega), ?_⟩) (fun e => ⟨oc_v16 ht (by omega), oc_v16 hi (by omega), ?_⟩))
    · rw [oc_k16 hi (by omega), e]
      by_cases z : tm (i * 16 + l) = nI m
      · refine br_t z (nm_r (by rw [← e]; exact nI_1 x) (ih (x + 1) (by omega) (fun q => h1 fun j a b => ?_) (fun q => h0 fun w => q fun j a b => w j (by omega) b)))
        by_cases y : j = l
        · exact ⟨fun _ => z, fun n => absurd y n⟩
        · exact q j (by omega) b
      · exact br_f z (h0 fun w => z ((w l (by omega) hl).1 rfl))
    · rw [oc_k16 hi (by omega), oc_k16 ht (by omega)]
      by_cases z : tm (i * 16 + x) = tm (t * 16 + x)
      · refine br_t z (nm_r (nI_1 x) (ih (x + 1) (by omega) (fun q => h1 fun j a b => ?_) (fun q => h0 fun w => q fun j a b => w j (by omega) b)))
        by_cases y : j = x
        · rw [y]; exact ⟨fun n => absurd n e, fun _ => z⟩
        · exact q j (by omega) b
      · exact br_f z (h0 fun w => z ((w x (Nat.le_refl _) (by omega)).2 e))
theorem oc_yel {NC TC tc nc us ob : Nat} {fail sp ret fu res : Int32} {tm kY nk rcv bod ann par mc ml mb rt rn cb oe org co cr gn ge gd gs : Nat → Int32} {post : Int32 → Prop} {t l m i : Nat} (ht : t < 32) (hl : l < 16) (hi : i < 32) : ∀ d x, x + d = 16 →
    ((∀ j, x ≤ j → j < 16 → (j = l → tm (i * 16 + l) = nI m) ∧ (j ≠ l → tm (i * 16 + j) = tm (t * 16 + j))) → post 1) →
    ((¬ ∀ j, x ≤ j → j < 16 → (j = l → tm (i * 16 + l) = nI m) ∧ (j ≠ l → tm (i * 16 + j) = tm (t * 16 + j))) → post 0) →
    wY_sameAsExtended_3 post (nI i) (nI t) (nI l) (nI m) (nI NC) (nI TC) (nI tc) (nI nc) fail sp ret (nI us) (nI ob) fu res tm kY nk rcv bod ann par mc ml mb rt rn cb oe org co cr gn ge gd gs (d + 1) (nI x) := by
  intro d
  induction d with
  | zero =>
    intro x hx h1 h0
    exact br_t (nI_le (a := 16) (by omega) (by omega)) (h1 fun l' x y => by omega)
  | succ d ih =>
    intro x hx h1 h0
    refine br_f (nI_ge (b := 16) (by omega) (by omega)) (pk_eq x l (fun e => ⟨oc_v16 hi (by omega), ?_⟩) (fun e => ⟨oc_v16 ht (by omega), oc_v16 hi (by omega), ?_⟩))
    · rw [oc_k16 hi (by omega), e]
      by_cases z : tm (i * 16 + l) = nI m
      · refine br_t z (nm_r (by rw [← e]; exact nI_1 x) (ih (x + 1) (by omega) (fun q => h1 fun j a b => ?_) (fun q => h0 fun w => q fun j a b => w j (by omega) b)))
        by_cases y : j = l
        · exact ⟨fun _ => z, fun n => absurd y n⟩
        · exact q j (by omega) b
      · exact br_f z (h0 fun w => z ((w l (by omega) hl).1 rfl))
    · rw [oc_k16 hi (by omega), oc_k16 ht (by omega)]
      by_cases z : tm (i * 16 + x) = tm (t * 16 + x)
      · refine br_t z (nm_r (nI_1 x) (ih (x + 1) (by omega) (fun q => h1 fun j a b => ?_) (fun q => h0 fun w => q fun j a b => w j (by omega) b)))
        by_cases y : j = x
        · rw [y]; exact ⟨fun n => absurd n e, fun _ => z⟩
        · exact q j (by omega) b
      · exact br_f z (h0 fun w => z ((w x (Nat.le_refl _) (by omega)).2 e))
theorem oc_xext {NC TC tc nc us ob : Nat} {fail res fl fc val : Int32} {tm mk kd par num ann rcv bod mc ml mb cd cb ce org co cr fn fe fp : Nat → Int32} {post : Int32 → Prop} {t l m i : Nat} (ht : t < 32) (hl : l < 16) (hi : i < 32) (h1 : oc_ext tm t l m i → post 1) (h0 : ¬ oc_ext tm t l m i → post 0) : wpX_isExtension post (nI NC, nI TC, nI tc, nI nc, fail, res, fl, nI us, nI ob, fc, val, tm, mk, kd, par, num, ann, rcv, bod, mc, ml, mb, cd, cb, ce, org, co, cr, fn, fe, fp) (nI i) (nI t) (nI l) (nI m) :=
  ⟨17, oc_xel ht hl hi 16 0 rfl (fun q => h1 ⟨(q l (Nat.zero_le _) hl).1 rfl, fun j hj ne => (q j (Nat.zero_le _) hj).2 ne⟩)
    (fun q => h0 fun w => q fun j _ hj => ⟨fun _ => w.1, fun ne => w.2 j hj ne⟩)⟩
theorem oc_yext {NC TC tc nc us ob : Nat} {fail sp ret fu res : Int32} {tm kY nk rcv bod ann par mc ml mb rt rn cb oe org co cr gn ge gd gs : Nat → Int32} {post : Int32 → Prop} {t l m i : Nat} (ht : t < 32) (hl : l < 16) (hi : i < 32) (h1 : oc_ext tm t l m i → post 1) (h0 : ¬ oc_ext tm t l m i → post 0) : wpY_sameAsExtended post (nI NC, nI TC, nI tc, nI nc, fail, sp, ret, nI us, nI ob, fu, res, tm, kY, nk, rcv, bod, ann, par, mc, ml, mb, rt, rn, cb, oe, org, co, cr, gn, ge, gd, gs) (nI i) (nI t) (nI l) (nI m) :=
  ⟨17, oc_yel ht hl hi 16 0 rfl (fun q => h1 ⟨(q l (Nat.zero_le _) hl).1 rfl, fun j hj ne => (q j (Nat.zero_le _) hj).2 ne⟩)
    (fun q => h0 fun w => q fun j _ hj => ⟨fun _ => w.1, fun ne => w.2 j hj ne⟩)⟩
theorem oc_ylc {NC TC tc nc us ob : Nat} {fail sp ret fu res : Int32} {tm kY nk rcv bod ann par mc ml mb rt rn cb oe org co cr gn ge gd gs : Nat → Int32} {post : Int32 → Prop} {t : Nat} (ht : t < 32) (h : post (nI (oc_lc tm t))) : wpY_labelCount post (nI NC, nI TC, nI tc, nI nc, fail, sp, ret, nI us, nI ob, fu, res, tm, kY, nk, rcv, bod, ann, par, mc, ml, mb, rt, rn, cb, oe, org, co, cr, gn, ge, gd, gs) (nI t) := by
  have key : ∀ d l, l + d = 16 → wY_labelCount_4 post (nI t) (nI NC) (nI TC) (nI tc) (nI nc) fail sp ret (nI us) (nI ob) fu res tm kY nk rcv bod ann par mc ml mb rt rn cb oe org co cr gn ge gd gs (d + 1) (nI (oc_sm (fun l => if tm (t * 16 + l) = -1 then 0 else 1) l)) (nI l) := by
    intro d
    induction d with
    | zero =>
      intro l hl
      rw [show l = 16 by omega]
      exact br_t (nI_le (a := 16) (by omega) (by omega)) h
    | succ d ih =>
      intro l hl
      refine br_f (nI_ge (b := 16) (by omega) (by omega)) ⟨oc_v16 ht (by omega), ?_⟩
      have e := ih (l + 1) (by omega)
      rw [oc_sm] at e
      by_cases z : tm (t * 16 + l) = -1
      · rw [if_pos z, Nat.add_zero] at e
        exact br_t (by rw [oc_k16 ht (by omega)]; exact z) (nm_r (nI_1 l) e)
      · rw [if_neg z] at e
        exact br_f (by rw [oc_k16 ht (by omega)]; exact z) (nm_r (nI_1 _) (nm_r (nI_1 l) e))
  exact ⟨17, key 16 0 rfl⟩
theorem oc_xnew {NC TC tc nc us ob : Nat} {fail res fl fc val : Int32} {tm mk kd par num ann rcv bod mc ml mb cd cb ce org co cr fn fe fp : Nat → Int32} {post : Int32 → SX → Prop} {t l : Nat} {m : Int32} (htc : tc < 32) (ht : t < tc) (hl : l < 16) (hmk : mk t = nI (oc_lc tm t)) (h : post (nI tc) (nI NC, nI TC, nI (tc + 1), nI nc, fail, res, fl, nI us, nI ob, fc, val, upd (oc_tc tm t tc 16) (tc * 16 + l) m, upd mk tc (nI (oc_lc tm t + 1)), kd, par, num, ann, rcv, bod, mc, ml, mb, cd, cb, ce, org, co, cr, fn, fe, fp)) : wpX_newType post (nI NC, nI TC, nI tc, nI nc, fail, res, fl, nI us, nI ob, fc, val, tm, mk, kd, par, num, ann, rcv, bod, mc, ml, mb, cd, cb, ce, org, co, cr, fn, fe, fp) (nI t) (nI l) m := by
  have key : ∀ d x, x + d = 16 → wX_newType_9 post (nI t) (nI l) m (nI tc) (nI NC) (nI TC) (nI tc) (nI nc) fail res fl (nI us) (nI ob) fc val (d + 1) (nI x) (oc_tc tm t tc x) mk kd par num ann rcv bod mc ml mb cd cb ce org co cr fn fe fp := by
    intro d
    induction d with
    | zero =>
      intro x hx
      rw [show x = 16 by omega]
      refine br_t (nI_le (a := 16) (by omega) (by omega)) ⟨oc_v16 htc hl, nm_e ⟨vp_in_nI (by omega) (by omega), vp_in_nI htc (by omega), nm_e (nm_e ?_)⟩⟩
      rw [oc_k16 htc hl, nI_clamp (n := tc) (by omega), nI_clamp (n := t) (by omega), hmk, nI_1, nI_1]
      exact h
    | succ d ih =>
      intro x hx
      refine br_f (nI_ge (b := 16) (by omega) (by omega)) ⟨oc_v16 (by omega) (by omega), oc_v16 htc (by omega), nm_e (nm_r (nI_1 x) ?_)⟩
      rw [oc_k16 htc (by omega), oc_k16 (by omega) (by omega)]
      exact ih (x + 1) (by omega)
  exact ⟨17, key 16 0 rfl⟩
theorem oc_ynew {NC TC tc nc us ob : Nat} {fail sp ret fu res : Int32} {tm kY nk rcv bod ann par mc ml mb rt rn cb oe org co cr gn ge gd gs : Nat → Int32} {post : Int32 → SY → Prop} {t l : Nat} {m : Int32} (htc : tc < 32) (ht : t < tc) (hl : l < 16) (h : post (nI tc) (nI NC, nI TC, nI (tc + 1), nI nc, fail, sp, ret, nI us, nI ob, fu, res, upd (oc_tc tm t tc 16) (tc * 16 + l) m, kY, nk, rcv, bod, ann, par, mc, ml, mb, rt, rn, cb, oe, org, co, cr, gn, ge, gd, gs)) : ∃ n, wY_extendType_114 post (nI t) (nI l) m (nI tc) (nI NC) (nI TC) (nI tc) (nI nc) fail sp ret (nI us) (nI ob) fu res n 0 tm kY nk rcv bod ann par mc ml mb rt rn cb oe org co cr gn ge gd gs := by
  have key : ∀ d x, x + d = 16 → wY_extendType_114 post (nI t) (nI l) m (nI tc) (nI NC) (nI TC) (nI tc) (nI nc) fail sp ret (nI us) (nI ob) fu res (d + 1) (nI x) (oc_tc tm t tc x) kY nk rcv bod ann par mc ml mb rt rn cb oe org co cr gn ge gd gs := by
    intro d
    induction d with
    | zero =>
      intro x hx
      rw [show x = 16 by omega]
      refine br_t (nI_le (a := 16) (by omega) (by omega)) ⟨oc_v16 htc hl, nm_e (nm_e ?_)⟩
      rw [oc_k16 htc hl, nI_1]
      exact h
    | succ d ih =>
      intro x hx
      refine br_f (nI_ge (b := 16) (by omega) (by omega)) ⟨oc_v16 (by omega) (by omega), oc_v16 htc (by omega), nm_e (nm_r (nI_1 x) ?_)⟩
      rw [oc_k16 htc (by omega), oc_k16 (by omega) (by omega)]
      exact ih (x + 1) (by omega)
  exact ⟨17, key 16 0 rfl⟩
theorem oc_xfind {NC TC tc nc us ob : Nat} {fail res fl fc val : Int32} {tm mk kd par num ann rcv bod mc ml mb cd cb ce org co cr fn fe fp : Nat → Int32} {post : Int32 → SX → Prop} {t l m : Nat} (hTC : TC ≤ 32) (htc : tc ≤ TC) (ht : t < tc) (hl : l < 16) (hmk : mk t = nI (oc_lc tm t)) : ∀ d i, i + d = tc →
    (∀ j, i ≤ j → j < tc → oc_ext tm t l m j → (∀ j', i ≤ j' → j' < j → ¬ oc_ext tm t l m j') → post (nI j) (nI NC, nI TC, nI tc, nI nc, fail, res, fl, nI us, nI ob, fc, val, tm, mk, kd, par, num, ann, rcv, bod, mc, ml, mb, cd, cb, ce, org, co, cr, fn, fe, fp)) →
    ((∀ j, i ≤ j → j < tc → ¬ oc_ext tm t l m j) → (tc < TC → post (nI tc) (nI NC, nI TC, nI (tc + 1), nI nc, fail, res, fl, nI us, nI ob, fc, val, upd (oc_tc tm t tc 16) (tc * 16 + l) (nI m), upd mk tc (nI (oc_lc tm t + 1)), kd, par, num, ann, rcv, bod, mc, ml, mb, cd, cb, ce, org, co, cr, fn, fe, fp)) ∧ (¬ tc < TC → post (-1) (nI NC, nI TC, nI tc, nI nc, fail, res, fl, nI us, nI ob, fc, val, tm, mk, kd, par, num, ann, rcv, bod, mc, ml, mb, cd, cb, ce, org, co, cr, fn, fe, fp))) →
    wX_extendType_60 post (nI t) (nI l) (nI m) (nI NC) (nI TC) (nI tc) (nI nc) fail res fl (nI us) (nI ob) fc val tm mk kd par num ann rcv bod mc ml mb cd cb ce org co cr fn fe fp (d + 1) (nI i) := by
  intro d
  induction d with
  | zero =>
    intro i hi hf he
    have E := he fun j a b => by omega
    rw [show i = tc by omega]
    refine br_t (nI_le (Nat.le_refl _) (by omega)) (pk_lt tc TC (fun q => ?_) (fun q => E.2 (by omega)))
    exact oc_xnew (by omega) ht hl hmk (E.1 q)
  | succ d ih =>
    intro i hi hf he
    refine br_f (nI_ge (by omega) (by omega)) (oc_xext (by omega) hl (by omega) (fun q => br_f oc_10 (hf i (Nat.le_refl _) (by omega) q fun j' a b => by omega)) (fun q => br_t rfl (nm_r (nI_1 i) (ih (i + 1) (by omega) (fun j a b c g => hf j (by omega) b c fun j' x y => ?_) (fun w => he fun j x y => ?_)))))
    · by_cases z : j' = i
      · rw [z]; exact q
      · exact g j' (by omega) y
    · by_cases z : j = i
      · rw [z]; exact q
      · exact w j (by omega) y
theorem oc_yfind {NC TC tc nc us ob : Nat} {fail sp ret fu res : Int32} {tm kY nk rcv bod ann par mc ml mb rt rn cb oe org co cr gn ge gd gs : Nat → Int32} {post : Int32 → SY → Prop} {t l m : Nat} (hTC : TC ≤ 32) (htc : tc ≤ TC) (ht : t < tc) (hl : l < 16) : ∀ d i, i + d = tc →
    (∀ j, i ≤ j → j < tc → oc_ext tm t l m j → (∀ j', i ≤ j' → j' < j → ¬ oc_ext tm t l m j') → post (nI j) (nI NC, nI TC, nI tc, nI nc, fail, sp, ret, nI us, nI ob, fu, res, tm, kY, nk, rcv, bod, ann, par, mc, ml, mb, rt, rn, cb, oe, org, co, cr, gn, ge, gd, gs)) →
    ((∀ j, i ≤ j → j < tc → ¬ oc_ext tm t l m j) → (tc < TC → post (nI tc) (nI NC, nI TC, nI (tc + 1), nI nc, fail, sp, ret, nI us, nI ob, fu, res, upd (oc_tc tm t tc 16) (tc * 16 + l) (nI m), kY, nk, rcv, bod, ann, par, mc, ml, mb, rt, rn, cb, oe, org, co, cr, gn, ge, gd, gs)) ∧ (¬ tc < TC → post (-1) (nI NC, nI TC, nI tc, nI nc, fail, sp, ret, nI us, nI ob, fu, res, tm, kY, nk, rcv, bod, ann, par, mc, ml, mb, rt, rn, cb, oe, org, co, cr, gn, ge, gd, gs))) →
    wY_extendType_62 post (nI t) (nI l) (nI m) (nI NC) (nI TC) (nI tc) (nI nc) fail sp ret (nI us) (nI ob) fu res tm kY nk rcv bod ann par mc ml mb rt rn cb oe org co cr gn ge gd gs (d + 1) (nI i) := by
  intro d
  induction d with
  | zero =>
    intro i hi hf he
    have E := he fun j a b => by omega
    rw [show i = tc by omega]
    refine br_t (nI_le (Nat.le_refl _) (by omega)) (pk_lt tc TC (fun q => ?_) (fun q => E.2 (by omega)))
    exact oc_ynew (by omega) ht hl (E.1 q)
  | succ d ih =>
    intro i hi hf he
    refine br_f (nI_ge (by omega) (by omega)) (oc_yext (by omega) hl (by omega) (fun q => br_f oc_10 (hf i (Nat.le_refl _) (by omega) q fun j' a b => by omega)) (fun q => br_t rfl (nm_r (nI_1 i) (ih (i + 1) (by omega) (fun j a b c g => hf j (by omega) b c fun j' x y => ?_) (fun w => he fun j x y => ?_)))))
    · by_cases z : j' = i
      · rw [z]; exact q
      · exact g j' (by omega) y
    · by_cases z : j = i
      · rw [z]; exact q
      · exact w j (by omega) y
theorem i_vc_extendType {k : Nat} {u : SX} {v : SY} (I : i_Rel k u v) (hk : k + 5 ≤ 2562) (v1 : Int32) (v2 : Int32) (v3 : Int32) : wpX_extendType (fun r u' => wpY_extendType (fun r' v' => r' = r ∧ i_Rel (k + 5) u' v') v v1 v2 v3) u v1 v2 v3 := by
  have J : i_Rel (k + 5) u v := I
  obtain ⟨NC, TC, tc, nc, us, ob, fail, res, fl, fc, val, sp, ret, fu, tm, mk, kd, par, num, ann, rcv, bod, mc, ml, mb, cd, cb, ce, org, co, cr, fn, fe, fp, kY, nk, rt, rn, oe, gn, ge, gd, gs, rfl, rfl, h1, h2, h3, h4, h5, h6, h7, hN, hT, hm, hK, hr⟩ := I
  unfold wpX_extendType
  rcases oc_ix v1 (n := tc) (by omega) with a | ⟨a, ha, rfl⟩
  · refine oc_xT0 a ?_
    unfold wpY_extendType
    exact oc_yT0 a ⟨rfl, J⟩
  refine oc_xT1 ha (by omega) (pk_eq a 0 (fun e => ?_) (fun e => ?_))
  · unfold wpY_extendType
    exact oc_yT1 ha (by omega) (pk_eq a 0 (fun _ => ⟨rfl, J⟩) (fun q => absurd e q))
  have na : ¬ nI a = 0 := nI_ne0 (by omega) (by omega)
  rcases oc_ix v2 (n := 16) (by omega) with b | ⟨b, hb, rfl⟩
  · refine oc_xL0 b ?_
    unfold wpY_extendType
    exact oc_yT1 ha (by omega) (br_f na (oc_la0 b ⟨rfl, J⟩))
  refine oc_xL1 hb ?_
  rcases oc_ix v3 (n := tc) (by omega) with c | ⟨c, hc, rfl⟩
  · refine oc_xT0 c ?_
    unfold wpY_extendType
    exact oc_yT1 ha (by omega) (br_f na (oc_la1 hb (oc_yT0 c ⟨rfl, J⟩)))
  refine oc_xT1 hc (by omega) ⟨oc_v16 (by omega) hb, ?_⟩
  rw [oc_k16 (by omega) hb]
  by_cases z : tm (a * 16 + b) = -1
  · refine br_t z ⟨vp_in_nI (by omega) (by omega), ?_⟩
    rw [nI_clamp (n := a) (by omega), (hT.2 a ha).1]
    have l16 := oc_lc_16 tm a
    refine pk_lt (oc_lc tm a) 8 (fun q => ⟨tc + 1, ?_⟩) (fun q => ?_)
    · have n0 : ¬ oc_ext tm a b c 0 := fun w => by
        have w1 := w.1
        rw [Nat.zero_mul, Nat.zero_add, hT.1 b hb] at w1
        exact oc_m1' (by omega) w1
      have Yw : ∀ (A : Int32) (XA : SX), wpY_labelCount (fun r => (r < 8 → ∃ n62, wY_extendType_62 (fun r' v' => r' = A ∧ i_Rel (k + 5) XA v') (nI a) (nI b) (nI c) (nI NC) (nI TC) (nI tc) (nI nc) fail sp ret (nI us) (nI ob) fu res tm kY nk rcv bod ann par mc ml mb rt rn cb oe org co cr gn ge gd gs n62 1) ∧ (¬ r < 8 → (-1 = A ∧ i_Rel (k + 5) XA (nI NC, nI TC, nI tc, nI nc, fail, sp, ret, nI us, nI ob, fu, res, tm, kY, nk, rcv, bod, ann, par, mc, ml, mb, rt, rn, cb, oe, org, co, cr, gn, ge, gd, gs)))) (nI NC, nI TC, nI tc, nI nc, fail, sp, ret, nI us, nI ob, fu, res, tm, kY, nk, rcv, bod, ann, par, mc, ml, mb, rt, rn, cb, oe, org, co, cr, gn, ge, gd, gs) (nI a) → wpY_extendType (fun r' v' => r' = A ∧ i_Rel (k + 5) XA v') (nI NC, nI TC, nI tc, nI nc, fail, sp, ret, nI us, nI ob, fu, res, tm, kY, nk, rcv, bod, ann, par, mc, ml, mb, rt, rn, cb, oe, org, co, cr, gn, ge, gd, gs) (nI a) (nI b) (nI c) := fun A XA w => by
        unfold wpY_extendType
        refine oc_yT1 ha (by omega) (br_f na (oc_la1 hb (oc_yT1 hc (by omega) ⟨oc_v16 (by omega) hb, ?_⟩)))
        rw [oc_k16 (by omega) hb]
        exact br_t z w
      refine oc_xfind h2 h4 ha hb (hT.2 a ha).1 tc 0 (by omega) (fun j j1 j2 j3 j4 => ?_) (fun w => ⟨fun y => ?_, fun y => ?_⟩)
      · refine Yw _ _ (oc_ylc (by omega) (pk_lt (oc_lc tm a) 8 (fun _ => ⟨tc, ?_⟩) (fun q' => by omega)))
        have hj0 : j ≠ 0 := fun y => n0 (y ▸ j3)
        have key := oc_yfind (fail := fail) (sp := sp) (ret := ret) (us := us) (ob := ob) (fu := fu) (res := res) (NC := NC) (nc := nc) (kY := kY) (nk := nk) (rcv := rcv) (bod := bod) (ann := ann) (par := par) (mc := mc) (ml := ml) (mb := mb) (rt := rt) (rn := rn) (cb := cb) (oe := oe) (org := org) (co := co) (cr := cr) (gn := gn) (ge := ge) (gd := gd) (gs := gs) (post := fun r' v' => r' = nI j ∧ i_Rel (k + 5) (nI NC, nI TC, nI tc, nI nc, fail, res, fl, nI us, nI ob, fc, val, tm, mk, kd, par, num, ann, rcv, bod, mc, ml, mb, cd, cb, ce, org, co, cr, fn, fe, fp) v') (m := c) h2 h4 ha hb (tc - 1) 1 (by omega) (fun j' x1 x2 x3 x4 => ⟨?_, J⟩) (fun w => absurd j3 (w j (by omega) j2))
        · rw [show tc - 1 + 1 = tc by omega] at key
          exact key
        · have : j' = j := by
            rcases Nat.lt_trichotomy j' j with y | y | y
            · exact absurd x3 (j4 j' (by omega) y)
            · exact y
            · exact absurd j3 (x4 j (by omega) y)
          rw [this]
      · refine Yw _ _ (oc_ylc (by omega) (pk_lt (oc_lc tm a) 8 (fun _ => ⟨tc, ?_⟩) (fun q' => by omega)))
        have key := oc_yfind (fail := fail) (sp := sp) (ret := ret) (us := us) (ob := ob) (fu := fu) (res := res) (NC := NC) (nc := nc) (kY := kY) (nk := nk) (rcv := rcv) (bod := bod) (ann := ann) (par := par) (mc := mc) (ml := ml) (mb := mb) (rt := rt) (rn := rn) (cb := cb) (oe := oe) (org := org) (co := co) (cr := cr) (gn := gn) (ge := ge) (gd := gd) (gs := gs) (post := fun r' v' => r' = nI tc ∧ i_Rel (k + 5) (nI NC, nI TC, nI (tc + 1), nI nc, fail, res, fl, nI us, nI ob, fc, val, upd (oc_tc tm a tc 16) (tc * 16 + b) (nI c), upd mk tc (nI (oc_lc tm a + 1)), kd, par, num, ann, rcv, bod, mc, ml, mb, cd, cb, ce, org, co, cr, fn, fe, fp) v') (m := c) h2 h4 ha hb (tc - 1) 1 (by omega) (fun j' x1 x2 x3 x4 => absurd x3 (w j' (by omega) x2)) (fun _ => ⟨fun _ => ⟨rfl, ?_⟩, fun y' => absurd y y'⟩)
        · rw [show tc - 1 + 1 = tc by omega] at key
          exact key
        · exact oc_mk ⟨h1, h2, by omega, by omega, h5, h6, h7, oc_Nd_tc hN (by omega), oc_Ty_new hT h3 ha hb hc (by omega) z, hm, hK, hr⟩
      · refine Yw _ _ (oc_ylc (by omega) (pk_lt (oc_lc tm a) 8 (fun _ => ⟨tc, ?_⟩) (fun q' => by omega)))
        have key := oc_yfind (fail := fail) (sp := sp) (ret := ret) (us := us) (ob := ob) (fu := fu) (res := res) (NC := NC) (nc := nc) (kY := kY) (nk := nk) (rcv := rcv) (bod := bod) (ann := ann) (par := par) (mc := mc) (ml := ml) (mb := mb) (rt := rt) (rn := rn) (cb := cb) (oe := oe) (org := org) (co := co) (cr := cr) (gn := gn) (ge := ge) (gd := gd) (gs := gs) (post := fun r' v' => r' = -1 ∧ i_Rel (k + 5) (nI NC, nI TC, nI tc, nI nc, fail, res, fl, nI us, nI ob, fc, val, tm, mk, kd, par, num, ann, rcv, bod, mc, ml, mb, cd, cb, ce, org, co, cr, fn, fe, fp) v') (m := c) h2 h4 ha hb (tc - 1) 1 (by omega) (fun j' x1 x2 x3 x4 => absurd x3 (w j' (by omega) x2)) (fun _ => ⟨fun y' => absurd y' y, fun _ => ⟨rfl, J⟩⟩)
        rw [show tc - 1 + 1 = tc by omega] at key
        exact key
    · unfold wpY_extendType
      refine oc_yT1 ha (by omega) (br_f na (oc_la1 hb (oc_yT1 hc (by omega) ⟨oc_v16 (by omega) hb, ?_⟩)))
      rw [oc_k16 (by omega) hb]
      exact br_t z (oc_ylc (by omega) (pk_lt (oc_lc tm a) 8 (fun q' => by omega) (fun _ => ⟨rfl, J⟩)))
  · refine br_f z ?_
    unfold wpY_extendType
    refine oc_yT1 ha (by omega) (br_f na (oc_la1 hb (oc_yT1 hc (by omega) ⟨oc_v16 (by omega) hb, ?_⟩)))
    rw [oc_k16 (by omega) hb]
    exact br_f z ⟨rfl, J⟩
