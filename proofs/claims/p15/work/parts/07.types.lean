theorem oc_xfl {NC TC tc nc us ob : Nat} {fail res fl fc val : Int32} {tm mk kd par num ann rcv bod mc ml mb cd cb ce org co cr fn fe fp : Nat → Int32} {post : Int32 → Prop} {a b : Nat} (ha : a < 32) (hb : b < 32) : ∀ d l, l + d = 16 →
    ((∀ l', l ≤ l' → l' < 16 → tm (b * 16 + l') = -1 ∨ tm (a * 16 + l') = tm (b * 16 + l')) → post 1) →
    ((¬ ∀ l', l ≤ l' → l' < 16 → tm (b * 16 + l') = -1 ∨ tm (a * 16 + l') = tm (b * 16 + l')) → post 0) →
    wX_fits_19 post (nI a) (nI b) (nI NC) (nI TC) (nI tc) (nI nc) fail res fl (nI us) (nI ob) fc val tm mk kd par num ann rcv bod mc ml mb cd cb ce org co cr fn fe fp (d + 1) (nI l) := by
  intro d
  induction d with
  | zero =>
    intro l hl h1 h0
    exact br_t (nI_le (a := 16) (by omega) (by omega)) (h1 fun l' x y => by omega)
  | succ d ih =>
    intro l hl h1 h0
    refine br_f (nI_ge (b := 16) (by omega) (by omega)) ⟨oc_v16 hb (by omega), nm_r (congrArg tm (oc_k16 hb (by omega))) ?_⟩
    by_cases z : tm (b * 16 + l) = -1
    · refine br_t z (nm_r (nI_1 l) (ih (l + 1) (by omega) (fun q => h1 fun l' x y => ?_) (fun q => h0 fun w => q fun l' x y => w l' (by omega) y)))
      by_cases e : l' = l
      · rw [e]; exact Or.inl z
      · exact q l' (by omega) y
    · refine br_f z ⟨oc_v16 ha (by omega), ?_⟩
      by_cases y : tm (a * 16 + l) = tm (b * 16 + l)
      · refine br_t (by rw [oc_k16 ha (by omega)]; exact y) (nm_r (nI_1 l) (ih (l + 1) (by omega) (fun q => h1 fun l' x y' => ?_) (fun q => h0 fun w => q fun l' x y' => w l' (by omega) y')))
        by_cases e : l' = l
        · rw [e]; exact Or.inr y
        · exact q l' (by omega) y'
      · exact br_f (by rw [oc_k16 ha (by omega)]; exact y) (h0 fun w => (w l (Nat.le_refl _) (by omega)).elim z y)
theorem oc_xfits {NC TC tc nc us ob : Nat} {fail res fl fc val : Int32} {tm mk kd par num ann rcv bod mc ml mb cd cb ce org co cr fn fe fp : Nat → Int32} {post : Int32 → Prop} {a b : Nat} (ha : a < 32) (hb : b < 32) (h1 : oc_sub tm a b → post 1) (h0 : ¬ oc_sub tm a b → post 0) : wpX_fits post (nI NC, nI TC, nI tc, nI nc, fail, res, fl, nI us, nI ob, fc, val, tm, mk, kd, par, num, ann, rcv, bod, mc, ml, mb, cd, cb, ce, org, co, cr, fn, fe, fp) (nI a) (nI b) := by
  refine pk_eq a b (fun e => h1 (Or.inl e)) (fun e => pk_eq b 0 (fun e0 => h1 (Or.inr (Or.inl e0))) (fun e0 => pk_eq a 0 (fun ea => h0 fun q => ?_) (fun ea => ⟨17, ?_⟩)))
  · rcases q with q | q | q
    · exact e q
    · exact e0 q
    · exact q.1 ea
  · refine oc_xfl ha hb 16 0 (by omega) (fun q => h1 (Or.inr (Or.inr ⟨ea, fun l hl => q l (Nat.zero_le _) hl⟩))) (fun q => h0 fun w => ?_)
    rcases w with w | w | w
    · exact e w
    · exact e0 w
    · exact q fun l _ hl => w.2 l hl
def oc_ext (tm : Nat → Int32) (t l m i : Nat) : Prop := tm (i * 16 + l) = nI m ∧ ∀ j, j < 16 → j ≠ l → tm (i * 16 + j) = tm (t * 16 + j)
theorem oc_xel {NC TC tc nc us ob : Nat} {fail res fl fc val : Int32} {tm mk kd par num ann rcv bod mc ml mb cd cb ce org co cr fn fe fp : Nat → Int32} {post : Int32 → Prop} {t l m i : Nat} (ht : t < 32) (hl : l < 16) (hi : i < 32) : ∀ d x, x + d = 16 →
    ((∀ j, x ≤ j → j < 16 → (j = l → tm (i * 16 + l) = nI m) ∧ (j ≠ l → tm (i * 16 + j) = tm (t * 16 + j))) → post 1) →
    ((¬ ∀ j, x ≤ j → j < 16 → (j = l → tm (i * 16 + l) = nI m) ∧ (j ≠ l → tm (i * 16 + j) = tm (t * 16 + j))) → post 0) →
    wX_isExtension_3 post (nI i) (nI t) (nI l) (nI m) (nI NC) (nI TC) (nI tc) (nI nc) fail res fl (nI us) (nI ob) fc val tm mk kd par num ann rcv bod mc ml mb cd cb ce org co cr fn fe fp (d + 1) (nI x) := by
  intro d
  induction d with
  | zero =>
    intro x hx h1 h0
    exact br_t (nI_le (a := 16) (by omega) (by omega)) (h1 fun l' x y => by omega)
  | succ d ih =>
    intro x hx h1 h0
    refine br_f (nI_ge (b := 16) (by omega) (by omega)) (pk_eq x l (fun e => ⟨oc_v16 hi (by omega), ?_⟩) (fun e => ⟨oc_v16 ht (by omega), oc_v16 hi (by omega), ?_⟩))
    · rw [oc_k16 hi (by omega), e]
      by_cases z : tm (i * 16 + l) = nI m
      · refine br_t z (nm_r (by rw [← e]; exact nI_1 x) (ih (x + 1) (by omega) (fun q => h1 fun j a b => ?_) (fun q => h0 fun w => q fun j a b => w j (by omega) b)))
        by_cases y : j = l
        · exact ⟨fun _ => z, fun n => absurd y n⟩
        · exact q j (by omega) b
      · exact br_f z (h0 fun w => z ((w l (by omega) hl).1 rfl))
    · rw [oc_k16 hi (by omega), oc_k16 ht (by omega)]
      by_cases z : tm (i * 16 + x) = tm (t * 16 + x)
      · refine br_t z (nm_r (nI_1 x) (ih (x + 1) (by omega) (fun q => h1 fun j a b => ?_) (fun q => h0 fun w => q fun j a b => w j (by omega) b)))
        by_cases y : j = x
        · rw [y]; exact ⟨fun n => absurd n e, fun _ => z⟩
        · exact q j (by omega) b
      · exact br_f z (h0 fun w => z ((w x (Nat.le_refl _) (by omega)).2 e))
theorem oc_xext {NC TC tc nc us ob : Nat} {fail res fl fc val : Int32} {tm mk kd par num ann rcv bod mc ml mb cd cb ce org co cr fn fe fp : Nat → Int32} {post : Int32 → Prop} {t l m i : Nat} (ht : t < 32) (hl : l < 16) (hi : i < 32) (h1 : oc_ext tm t l m i → post 1) (h0 : ¬ oc_ext tm t l m i → post 0) : wpX_isExtension post (nI NC, nI TC, nI tc, nI nc, fail, res, fl, nI us, nI ob, fc, val, tm, mk, kd, par, num, ann, rcv, bod, mc, ml, mb, cd, cb, ce, org, co, cr, fn, fe, fp) (nI i) (nI t) (nI l) (nI m) :=
  ⟨17, oc_xel ht hl hi 16 0 rfl (fun q => h1 ⟨(q l (Nat.zero_le _) hl).1 rfl, fun j hj ne => (q j (Nat.zero_le _) hj).2 ne⟩)
    (fun q => h0 fun w => q fun j _ hj => ⟨fun _ => w.1, fun ne => w.2 j hj ne⟩)⟩
theorem oc_xnew {NC TC tc nc us ob : Nat} {fail res fl fc val : Int32} {tm mk kd par num ann rcv bod mc ml mb cd cb ce org co cr fn fe fp : Nat → Int32} {post : Int32 → St2 → Prop} {t l : Nat} {m : Int32} (htc : tc < 32) (ht : t < tc) (hl : l < 16) (hmk : mk t = nI (oc_lc tm t)) (h : post (nI tc) (nI NC, nI TC, nI (tc + 1), nI nc, fail, res, fl, nI us, nI ob, fc, val, upd (oc_tc tm t tc 16) (tc * 16 + l) m, upd mk tc (nI (oc_lc tm t + 1)), kd, par, num, ann, rcv, bod, mc, ml, mb, cd, cb, ce, org, co, cr, fn, fe, fp)) : wpX_newType post (nI NC, nI TC, nI tc, nI nc, fail, res, fl, nI us, nI ob, fc, val, tm, mk, kd, par, num, ann, rcv, bod, mc, ml, mb, cd, cb, ce, org, co, cr, fn, fe, fp) (nI t) (nI l) m := by
  have key : ∀ d x, x + d = 16 → wX_newType_9 post (nI t) (nI l) m (nI tc) (nI NC) (nI TC) (nI tc) (nI nc) fail res fl (nI us) (nI ob) fc val (d + 1) (nI x) (oc_tc tm t tc x) mk kd par num ann rcv bod mc ml mb cd cb ce org co cr fn fe fp := by
    intro d
    induction d with
    | zero =>
      intro x hx
      rw [show x = 16 by omega]
      refine br_t (nI_le (a := 16) (by omega) (by omega)) ⟨oc_v16 htc hl, nm_e ⟨vp_in_nI (by omega) (by omega), vp_in_nI htc (by omega), nm_e (nm_e ?_)⟩⟩
      rw [oc_k16 htc hl, nI_clamp (n := tc) (by omega), nI_clamp (n := t) (by omega), hmk, nI_1, nI_1]
      exact h
    | succ d ih =>
      intro x hx
      refine br_f (nI_ge (b := 16) (by omega) (by omega)) ⟨oc_v16 (by omega) (by omega), oc_v16 htc (by omega), nm_e (nm_r (nI_1 x) ?_)⟩
      rw [oc_k16 htc (by omega), oc_k16 (by omega) (by omega)]
      exact ih (x + 1) (by omega)
  exact ⟨17, key 16 0 rfl⟩
theorem oc_xfind {NC TC tc nc us ob : Nat} {fail res fl fc val : Int32} {tm mk kd par num ann rcv bod mc ml mb cd cb ce org co cr fn fe fp : Nat → Int32} {post : Int32 → St2 → Prop} {t l m : Nat} (hTC : TC ≤ 32) (htc : tc ≤ TC) (ht : t < tc) (hl : l < 16) (hmk : mk t = nI (oc_lc tm t)) : ∀ d i, i + d = tc →
    (∀ j, i ≤ j → j < tc → oc_ext tm t l m j → (∀ j', i ≤ j' → j' < j → ¬ oc_ext tm t l m j') → post (nI j) (nI NC, nI TC, nI tc, nI nc, fail, res, fl, nI us, nI ob, fc, val, tm, mk, kd, par, num, ann, rcv, bod, mc, ml, mb, cd, cb, ce, org, co, cr, fn, fe, fp)) →
    ((∀ j, i ≤ j → j < tc → ¬ oc_ext tm t l m j) → (tc < TC → post (nI tc) (nI NC, nI TC, nI (tc + 1), nI nc, fail, res, fl, nI us, nI ob, fc, val, upd (oc_tc tm t tc 16) (tc * 16 + l) (nI m), upd mk tc (nI (oc_lc tm t + 1)), kd, par, num, ann, rcv, bod, mc, ml, mb, cd, cb, ce, org, co, cr, fn, fe, fp)) ∧ (¬ tc < TC → post (-1) (nI NC, nI TC, nI tc, nI nc, fail, res, fl, nI us, nI ob, fc, val, tm, mk, kd, par, num, ann, rcv, bod, mc, ml, mb, cd, cb, ce, org, co, cr, fn, fe, fp))) →
    wX_extendType_60 post (nI t) (nI l) (nI m) (nI NC) (nI TC) (nI tc) (nI nc) fail res fl (nI us) (nI ob) fc val tm mk kd par num ann rcv bod mc ml mb cd cb ce org co cr fn fe fp (d + 1) (nI i) := by
  intro d
  induction d with
  | zero =>
    intro i hi hf he
    have E := he fun j a b => by omega
    rw [show i = tc by omega]
    refine br_t (nI_le (Nat.le_refl _) (by omega)) (pk_lt tc TC (fun q => ?_) (fun q => E.2 (by omega)))
    exact oc_xnew (by omega) ht hl hmk (E.1 q)
  | succ d ih =>
    intro i hi hf he
    refine br_f (nI_ge (by omega) (by omega)) (oc_xext (by omega) hl (by omega) (fun q => br_f oc_10 (hf i (Nat.le_refl _) (by omega) q fun j' a b => by omega)) (fun q => br_t rfl (nm_r (nI_1 i) (ih (i + 1) (by omega) (fun j a b c g => hf j (by omega) b c fun j' x y => ?_) (fun w => he fun j x y => ?_)))))
    · by_cases z : j' = i
      · rw [z]; exact q
      · exact g j' (by omega) y
    · by_cases z : j = i
      · rw [z]; exact q
      · exact w j (by omega) y
