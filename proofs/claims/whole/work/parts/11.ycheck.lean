/-! Y's table of types -/
theorem oc_yse {NC TC tc nc us ob : Nat} {fail sp ret fu res : Int32} {tm kY nk rcv bod ann par mc ml mb rt rn cb oe org co cr gn ge gd gs : Nat → Int32} {post : SY → Prop} {n : Nat} {c : Int32} (hn : n < 32) (h : post (nI NC, nI TC, nI tc, nI nc, fail, sp, ret, nI us, nI ob, fu, res, tm, kY, nk, rcv, bod, ann, par, mc, ml, mb, upd rt n c, upd rn n (nI n), cb, oe, org, co, cr, gn, ge, gd, gs)) : wpY_setErr post (nI NC, nI TC, nI tc, nI nc, fail, sp, ret, nI us, nI ob, fu, res, tm, kY, nk, rcv, bod, ann, par, mc, ml, mb, rt, upd rn n (-1), cb, oe, org, co, cr, gn, ge, gd, gs) (nI n) c := by
  have vn : vp_in (nI n) 32 := vp_in_nI hn (by omega)
  refine ⟨vn, nm_e ⟨vn, nm_e ?_⟩⟩
  rw [nI_clamp (n := n) (by omega), oc_uu]
  exact h
theorem oc_ycr {NC TC tc nc us ob : Nat} {fail sp ret fu res : Int32} {tm kY nk rcv bod ann par mc ml mb rt rn cb oe org co cr gn ge gd gs : Nat → Int32} {post : SY → Prop} {n c : Nat} (hn : n < 32) (hc : c < n) (h : post (nI NC, nI TC, nI tc, nI nc, fail, sp, ret, nI us, nI ob, fu, res, tm, kY, nk, rcv, bod, ann, par, mc, ml, mb, upd rt n (rt c), upd rn n (rn c), cb, oe, org, co, cr, gn, ge, gd, gs)) : wpY_copyRes post (nI NC, nI TC, nI tc, nI nc, fail, sp, ret, nI us, nI ob, fu, res, tm, kY, nk, rcv, bod, ann, par, mc, ml, mb, rt, upd rn n (-1), cb, oe, org, co, cr, gn, ge, gd, gs) (nI n) (nI c) := by
  have vn : vp_in (nI n) 32 := vp_in_nI hn (by omega)
  have vc : vp_in (nI c) 32 := vp_in_nI (by omega) (by omega)
  refine ⟨vc, vn, nm_e ⟨vc, vn, nm_e ?_⟩⟩
  rw [nI_clamp (n := n) (by omega), nI_clamp (n := c) (by omega), oc_uu, pk_un (by omega)]
  exact h
theorem oc_ytm {NC TC tc nc us ob : Nat} {fail sp ret fu res : Int32} {tm kY nk rcv bod ann par mc ml mb rt rn cb oe org co cr gn ge gd gs : Nat → Int32} {post : Int32 → Prop} {A l : Nat} (htc : tc ≤ 32) (hA : A < tc) (hA0 : ¬ A = 0) (hl : l < 16) (h : post (tm (A * 16 + l))) : wpY_typeMember post (nI NC, nI TC, nI tc, nI nc, fail, sp, ret, nI us, nI ob, fu, res, tm, kY, nk, rcv, bod, ann, par, mc, ml, mb, rt, rn, cb, oe, org, co, cr, gn, ge, gd, gs) (nI A) (nI l) := by
  unfold wpY_typeMember
  refine oc_yT1 hA htc (br_f (nI_ne0 (by omega) (by omega)) (oc_lb1 hl ⟨oc_v16 (by omega) hl, ?_⟩))
  rw [oc_k16 (by omega) hl]
  exact h
theorem oc_ylm {NC TC tc nc us ob : Nat} {fail sp ret fu res : Int32} {tm kY nk rcv bod ann par mc ml mb rt rn cb oe org co cr gn ge gd gs : Nat → Int32} {post : Int32 → Prop} {n A m : Nat} (hn : n < 32) (hA : A < 32) (eA : ann n = nI A) (hm : mc n = nI m) (hm8 : m ≤ 8) (hl : ∀ i, i < m → ∃ l, l < 16 ∧ ml (n * 8 + i) = nI l)
    (h1 : oc_LM tm mc ml n A → post 1) (h0 : ¬ oc_LM tm mc ml n A → post 0) : wpY_labelsMatch post (nI NC, nI TC, nI tc, nI nc, fail, sp, ret, nI us, nI ob, fu, res, tm, kY, nk, rcv, bod, ann, par, mc, ml, mb, rt, rn, cb, oe, org, co, cr, gn, ge, gd, gs) (nI n) := by
  have vn : vp_in (nI n) 32 := vp_in_nI hn (by omega)
  have cn : (nI n).toNatClampNeg = n := nI_clamp (by omega)
  have cm : (mc n).toNatClampNeg = m := by rw [hm, nI_clamp (by omega)]
  have key : mc n = nI (oc_lc tm A) → ∀ d i, i + d = 8 → (∀ i', i' < i → i' < m → ¬ tm (A * 16 + (ml (n * 8 + i')).toNatClampNeg) = -1) → wY_labelsMatch_25 post (nI n) (nI A) (nI NC) (nI TC) (nI tc) (nI nc) fail sp ret (nI us) (nI ob) fu res tm kY nk rcv bod ann par mc ml mb rt rn cb oe org co cr gn ge gd gs (d + 1) (nI i) := by
    intro em d
    induction d with
    | zero =>
      intro i hi hq
      exact br_t (nI_le (a := 8) (by omega) (by omega)) (h1 ⟨em, fun i' hi' => hq i' (by rw [cm] at hi'; omega) (by rw [cm] at hi'; exact hi')⟩)
    | succ d ih =>
      intro i hi hq
      refine br_f (nI_ge (b := 8) (by omega) (by omega)) ⟨vn, ?_⟩
      rw [cn, hm]
      refine pk_le m i (fun q => nm_r (nI_1 i) (ih (i + 1) (by omega) fun i' a b => hq i' (by omega) b)) (fun q => ⟨oc_v8 hn (by omega), ?_⟩)
      obtain ⟨l, l1, l2⟩ := hl i q
      rw [oc_k8 hn (by omega), l2]
      refine ⟨oc_v16 hA l1, ?_⟩
      rw [oc_k16 hA l1]
      by_cases z : tm (A * 16 + l) = -1
      · refine br_t z (h0 fun w => w.2 i (by rw [cm]; omega) ?_)
        rw [l2, nI_clamp (by omega)]; exact z
      · refine br_f z (nm_r (nI_1 i) (ih (i + 1) (by omega) fun i' a b => ?_))
        by_cases y : i' = i
        · rw [y, l2, nI_clamp (by omega)]; exact z
        · exact hq i' (by omega) b
  unfold wpY_labelsMatch
  refine ⟨vn, ?_⟩
  rw [cn, eA]
  refine nm_e (oc_ylc hA ⟨vn, ?_⟩)
  rw [hm]
  have l16 := oc_lc_16 tm A
  by_cases e : oc_lc tm A = m
  · exact br_t (by rw [e]) ⟨9, key (by rw [hm, e]) 8 0 (by omega) fun i' hi' => absurd hi' (Nat.not_lt_zero _)⟩
  · refine br_f (fun q => e ((nI_eq (by omega) (by omega)).mp q)) (h0 fun w => e ?_)
    have w1 := w.1
    rw [hm] at w1
    exact ((nI_eq (by omega) (by omega)).mp w1).symm
/-- the methods of a literal -/
theorem oc_yob {NC TC tc nc us ob : Nat} {fail sp ret fu res : Int32} {tm kY nk rcv bod ann par mc ml mb rt rn cb oe org co cr gn ge gd gs : Nat → Int32} {n A m : Nat} (htc : tc ≤ 32) (hn : n < 32) (hA : A < tc) (hA0 : ¬ A = 0) (hm : mc n = nI m) (hm8 : m ≤ 8)
    (hb : ∀ i, i < m → ∃ l b m', l < 16 ∧ ml (n * 8 + i) = nI l ∧ b < n ∧ mb (n * 8 + i) = nI b ∧ m' < tc ∧ tm (A * 16 + l) = nI m')
    (hrt : ∀ b, b < n → rt b < 0 ∨ ∃ k, k < tc ∧ rt b = nI k) : ∀ d i, i + d = m → ∃ t e, oc_OB tm ml mb rt rn n A t e d i ∧ (t < 0 ∨ ∃ k, k < tc ∧ t = nI k) ∧
      ∀ post : SY → Prop, post (nI NC, nI TC, nI tc, nI nc, fail, sp, ret, nI us, nI ob, fu, res, tm, kY, nk, rcv, bod, ann, par, mc, ml, mb, upd rt n t, upd rn n e, cb, oe, org, co, cr, gn, ge, gd, gs) → ∀ f, 8 - i < f → wY_typeOne_100 post (nI n) (nI A) (nI NC) (nI TC) (nI tc) (nI nc) fail sp ret (nI us) (nI ob) fu res tm kY nk rcv bod ann par mc ml mb rt (upd rn n (-1)) cb oe org co cr gn ge gd gs f (nI i) := by
  have vn : vp_in (nI n) 32 := vp_in_nI hn (by omega)
  have cn : (nI n).toNatClampNeg = n := nI_clamp (by omega)
  intro d
  induction d with
  | zero =>
    intro i hi
    refine ⟨nI A, -1, ⟨rfl, rfl⟩, Or.inr ⟨A, hA, rfl⟩, fun post h f hf => ?_⟩
    obtain ⟨g, rfl⟩ : ∃ g, f = g + 1 := ⟨f - 1, by omega⟩
    have fin : vp_in (nI n) 32 ∧ ∀ y : Nat → Int32, y = upd rt (nI n).toNatClampNeg (nI A) → post (nI NC, nI TC, nI tc, nI nc, fail, sp, ret, nI us, nI ob, fu, res, tm, kY, nk, rcv, bod, ann, par, mc, ml, mb, y, upd rn n (-1), cb, oe, org, co, cr, gn, ge, gd, gs) := by
      refine ⟨vn, nm_e ?_⟩
      rw [cn]
      exact h
    refine br_c (fun _ => fin) (fun _ => ⟨vn, br_t ?_ fin⟩)
    rw [cn, hm]
    exact nI_le (by omega) (by omega)
  | succ d ih =>
    intro i hi
    obtain ⟨l, b, m', y1, y2, y3, y4, y5, y6⟩ := hb i (by omega)
    have cb0 : (mb (n * 8 + i)).toNatClampNeg = b := by rw [y4, nI_clamp (by omega)]
    have cl : (ml (n * 8 + i)).toNatClampNeg = l := by rw [y2, nI_clamp (by omega)]
    have vb : vp_in (nI b) 32 := vp_in_nI (by omega) (by omega)
    have v8 := oc_v8 hn (show i < 8 by omega)
    have k8 := oc_k8 hn (show i < 8 by omega)
    rcases hrt b y3 with z | ⟨k, z1, z2⟩
    · refine ⟨rt b, rn b, ?_, Or.inl z, fun post h f hf => ?_⟩
      · unfold oc_OB
        rw [cb0]
        exact ⟨fun _ => ⟨rfl, rfl⟩, fun q => absurd z q⟩
      · obtain ⟨g, rfl⟩ : ∃ g, f = g + 1 := ⟨f - 1, by omega⟩
        refine br_f (nI_ge (b := 8) (by omega) (by omega)) ⟨vn, ?_⟩
        rw [cn, hm]
        refine br_f (nI_ge (by omega) (by omega)) ⟨v8, ?_⟩
        rw [k8, y4]
        refine nm_e ⟨vb, br_f ?_ (oc_ycr hn y3 h)⟩
        rw [nI_clamp (n := b) (by omega)]
        exact oc_ng z
    · have nn : ¬ rt b < 0 := by rw [z2]; exact nI_pos (by omega)
      have ck : (rt b).toNatClampNeg = k := by rw [z2, nI_clamp (by omega)]
      have go : ∀ (post : SY → Prop) (g : Nat), (oc_sub tm k m' → wY_typeOne_100 post (nI n) (nI A) (nI NC) (nI TC) (nI tc) (nI nc) fail sp ret (nI us) (nI ob) fu res tm kY nk rcv bod ann par mc ml mb rt (upd rn n (-1)) cb oe org co cr gn ge gd gs g (nI (i + 1))) → (¬ oc_sub tm k m' → post (nI NC, nI TC, nI tc, nI nc, fail, sp, ret, nI us, nI ob, fu, res, tm, kY, nk, rcv, bod, ann, par, mc, ml, mb, upd rt n (-7), upd rn n (nI n), cb, oe, org, co, cr, gn, ge, gd, gs)) → wY_typeOne_100 post (nI n) (nI A) (nI NC) (nI TC) (nI tc) (nI nc) fail sp ret (nI us) (nI ob) fu res tm kY nk rcv bod ann par mc ml mb rt (upd rn n (-1)) cb oe org co cr gn ge gd gs (g + 1) (nI i) := fun post g h1 h0 => by
        refine br_f (nI_ge (b := 8) (by omega) (by omega)) ⟨vn, ?_⟩
        rw [cn, hm]
        refine br_f (nI_ge (by omega) (by omega)) ⟨v8, ?_⟩
        rw [k8, y4, y2]
        refine nm_e ⟨vb, ?_⟩
        rw [nI_clamp (n := b) (by omega)]
        refine br_t (oc_nn nn) ⟨v8, oc_ytm htc hA hA0 y1 ⟨vb, ?_⟩⟩
        rw [z2, y6]
        exact oc_ysub htc z1 y5 (fun q => br_f oc_10 (nm_r (nI_1 i) (h1 q))) (fun q => br_t rfl (oc_yse hn (h0 q)))
      rcases Classical.em (oc_sub tm k m') with q | q
      · obtain ⟨t, e, o1, o2, o3⟩ := ih (i + 1) (by omega)
        refine ⟨t, e, ?_, o2, fun post h f hf => ?_⟩
        · unfold oc_OB
          rw [cb0, cl, ck, y6, nI_clamp (n := m') (by omega)]
          exact ⟨fun w => absurd w nn, fun _ => ⟨fun _ => o1, fun w => absurd q w⟩⟩
        · obtain ⟨g, rfl⟩ : ∃ g, f = g + 1 := ⟨f - 1, by omega⟩
          exact go post g (fun _ => o3 post h g (by omega)) (fun w => absurd q w)
      · refine ⟨-7, nI n, ?_, Or.inl (by decide), fun post h f hf => ?_⟩
        · unfold oc_OB
          rw [cb0, cl, ck, y6, nI_clamp (n := m') (by omega)]
          exact ⟨fun w => absurd w nn, fun _ => ⟨fun w => absurd w q, fun _ => ⟨rfl, rfl⟩⟩⟩
        · obtain ⟨g, rfl⟩ : ∃ g, f = g + 1 := ⟨f - 1, by omega⟩
          exact go post g (fun w => absurd w q) (fun _ => h)
theorem oc_yone {NC TC tc nc us ob : Nat} {fail sp ret fu res : Int32} {tm kY nk rcv bod ann par mc ml mb rt rn cb oe org co cr gn ge gd gs : Nat → Int32} {num kd mk : Nat → Int32} {r n : Nat} (hc : nc ≤ 32) (htc : tc ≤ 32) (hr : r < nc) (hn : n < nc) (N : oc_Nd nc tc kd par num ann rcv bod mc ml mb) (hK : ∀ n, n < nc → kY n = kd n + 1 ∧ (¬ kd n = 1 → nk n = num n)) (Y : oc_Ty tc tm mk)
    (hrt : ∀ b, b < n → rt b < 0 ∨ ∃ k, k < tc ∧ rt b = nI k) : ∃ t e, oc_LT tm kd par num ann rcv bod mc ml mb r rt rn n t e ∧ (t < 0 ∨ ∃ k, k < tc ∧ t = nI k) ∧
      ∀ post : SY → Prop, post (nI NC, nI TC, nI tc, nI nc, fail, sp, ret, nI us, nI ob, fu, res, tm, kY, nk, rcv, bod, ann, par, mc, ml, mb, upd rt n t, upd rn n e, cb, oe, org, co, cr, gn, ge, gd, gs) → wpY_typeOne post (nI NC, nI TC, nI tc, nI nc, fail, sp, ret, nI us, nI ob, fu, res, tm, kY, nk, rcv, bod, ann, par, mc, ml, mb, rt, rn, cb, oe, org, co, cr, gn, ge, gd, gs) (nI n) (nI r) := by
  have vn : vp_in (nI n) 32 := vp_in_nI (by omega) (by omega)
  have cn : (nI n).toNatClampNeg = n := nI_clamp (by omega)
  have hky := (hK n hn).1
  have hnk := (hK n hn).2
  obtain ⟨-, ⟨k1, k2, k, hk, ek⟩ | ⟨k1, k2, ⟨A, hA, eA⟩, m, w4, w5, w6, w7⟩ | ⟨k1, w2, ⟨l, hl, el⟩, a, w4, w5, w6⟩ | ⟨k1, ⟨l, hl, el⟩, ⟨A, hA, eA⟩, a, b, w4, w5, w6, w7, w8, w9, w10⟩⟩ := N n hn
  · -- a variable
    have ky : kY n = 1 := by rw [hky, k1]; decide
    have nk' : nk n = nI k := by rw [hnk (by rw [k1]; decide), ek]
    have ck : (num n).toNatClampNeg = k := by rw [ek, nI_clamp (by omega)]
    have lt : ∀ t e, ((∀ p : Nat, oc_bo par kd bod r n k = (p : Int) → t = ann p ∧ e = -1) ∧ ((∀ p : Nat, ¬ oc_bo par kd bod r n k = (p : Int)) → t = -2 ∧ e = nI n)) → oc_LT tm kd par num ann rcv bod mc ml mb r rt rn n t e := fun t e w => by
      refine ⟨fun _ => by rw [ck]; exact w, fun z => ?_, fun z => ?_, fun z => ?_⟩ <;> (rw [k1] at z; exact absurd z (by decide))
    have pre : ∀ post : SY → Prop, wpY_binderType (fun r_679 => (r_679 < 0 → wpY_setErr post (nI NC, nI TC, nI tc, nI nc, fail, sp, ret, nI us, nI ob, fu, res, tm, kY, nk, rcv, bod, ann, par, mc, ml, mb, rt, upd rn n (-1), cb, oe, org, co, cr, gn, ge, gd, gs) (nI n) (-2)) ∧ (¬ r_679 < 0 → (vp_in (nI n) 32 ∧ ∀ y : Nat → Int32, y = upd rt n r_679 → post (nI NC, nI TC, nI tc, nI nc, fail, sp, ret, nI us, nI ob, fu, res, tm, kY, nk, rcv, bod, ann, par, mc, ml, mb, y, upd rn n (-1), cb, oe, org, co, cr, gn, ge, gd, gs)))) (nI NC, nI TC, nI tc, nI nc, fail, sp, ret, nI us, nI ob, fu, res, tm, kY, nk, rcv, bod, ann, par, mc, ml, mb, rt, upd rn n (-1), cb, oe, org, co, cr, gn, ge, gd, gs) (nI n) (nI r) (nI k) → wpY_typeOne post (nI NC, nI TC, nI tc, nI nc, fail, sp, ret, nI us, nI ob, fu, res, tm, kY, nk, rcv, bod, ann, par, mc, ml, mb, rt, rn, cb, oe, org, co, cr, gn, ge, gd, gs) (nI n) (nI r) := fun post w => by
      unfold wpY_typeOne
      refine ⟨vn, nm_e ⟨vn, ?_⟩⟩
      rw [cn]
      refine br_t ky ⟨vn, ?_⟩
      rw [nk']
      exact w
    rcases oc_bo_3 (kd := kd) (bod := bod) (r := r) (oc_Nd_Pa N) hc n hn k with h | h | ⟨p, m, h1, h2, h3, h4⟩
    · refine ⟨-2, nI n, lt _ _ ⟨fun p q => by rw [h] at q; omega, fun _ => ⟨rfl, rfl⟩⟩, Or.inl (by decide), fun post hp => pre post ?_⟩
      exact oc_ybo hc hr N hK hn hk (fun p _ q => by rw [h] at q; omega) (fun _ => br_t (by decide) (oc_yse (by omega) hp)) (fun q => by rw [h] at q; omega)
    · refine ⟨-2, nI n, lt _ _ ⟨fun p q => by rw [h] at q; omega, fun _ => ⟨rfl, rfl⟩⟩, Or.inl (by decide), fun post hp => pre post ?_⟩
      exact oc_ybo hc hr N hK hn hk (fun p _ q => by rw [h] at q; omega) (fun q => by rw [h] at q; omega) (fun _ => br_t (by decide) (oc_yse (by omega) hp))
    · obtain ⟨A, hA, eA⟩ := oc_ann N h1 (by omega) h4
      refine ⟨ann p, -1, lt _ _ ⟨fun p' q => ?_, fun q => absurd h3 (q p)⟩, Or.inr ⟨A, hA, eA⟩, fun post hp => pre post ?_⟩
      · have : p' = p := by rw [h3] at q; omega
        rw [this]; exact ⟨rfl, rfl⟩
      · refine oc_ybo hc hr N hK hn hk (fun p' _ q => ?_) (fun q => by rw [h3] at q; omega) (fun q => by rw [h3] at q; omega)
        have : p' = p := by rw [h3] at q; omega
        subst this
        exact br_f (by rw [eA]; exact nI_pos (by omega)) ⟨vn, nm_e hp⟩
  · -- a literal
    have ky : kY n = 2 := by rw [hky, k1]; decide
    have cA : (ann n).toNatClampNeg = A := by rw [eA, nI_clamp (by omega)]
    have cm : (mc n).toNatClampNeg = m := by rw [w5, nI_clamp (by omega)]
    have lt : ∀ t e, ((ann n = 0 → t = -3 ∧ e = nI n) ∧ (¬ ann n = 0 → (¬ oc_LM tm mc ml n A → t = -5 ∧ e = nI n) ∧ (oc_LM tm mc ml n A → oc_OB tm ml mb rt rn n A t e m 0))) → oc_LT tm kd par num ann rcv bod mc ml mb r rt rn n t e := fun t e w => by
      refine ⟨fun z => ?_, fun _ => by rw [cA, cm]; exact w, fun z => ?_, fun z => ?_⟩ <;> (rw [k1] at z; exact absurd z (by decide))
    have pre : ∀ post : SY → Prop, ((nI A = 0 → wpY_setErr post (nI NC, nI TC, nI tc, nI nc, fail, sp, ret, nI us, nI ob, fu, res, tm, kY, nk, rcv, bod, ann, par, mc, ml, mb, rt, upd rn n (-1), cb, oe, org, co, cr, gn, ge, gd, gs) (nI n) (-3)) ∧ (¬ nI A = 0 → wpY_labelsMatch (fun r_431 => (r_431 = 0 → wpY_setErr post (nI NC, nI TC, nI tc, nI nc, fail, sp, ret, nI us, nI ob, fu, res, tm, kY, nk, rcv, bod, ann, par, mc, ml, mb, rt, upd rn n (-1), cb, oe, org, co, cr, gn, ge, gd, gs) (nI n) (-5)) ∧ (¬ r_431 = 0 → ∃ n100 : Nat, wY_typeOne_100 post (nI n) (nI A) (nI NC) (nI TC) (nI tc) (nI nc) fail sp ret (nI us) (nI ob) fu res tm kY nk rcv bod ann par mc ml mb rt (upd rn n (-1)) cb oe org co cr gn ge gd gs n100 0)) (nI NC, nI TC, nI tc, nI nc, fail, sp, ret, nI us, nI ob, fu, res, tm, kY, nk, rcv, bod, ann, par, mc, ml, mb, rt, upd rn n (-1), cb, oe, org, co, cr, gn, ge, gd, gs) (nI n))) → wpY_typeOne post (nI NC, nI TC, nI tc, nI nc, fail, sp, ret, nI us, nI ob, fu, res, tm, kY, nk, rcv, bod, ann, par, mc, ml, mb, rt, rn, cb, oe, org, co, cr, gn, ge, gd, gs) (nI n) (nI r) := fun post w => by
      unfold wpY_typeOne
      refine ⟨vn, nm_e ⟨vn, ?_⟩⟩
      rw [cn]
      refine br_f (by rw [ky]; decide) ⟨vn, ?_⟩
      rw [eA]
      refine nm_e ⟨vn, br_t ky w⟩
    by_cases hA0 : A = 0
    · have a0 : ann n = 0 := by rw [eA, hA0, nI_0]
      refine ⟨-3, nI n, lt _ _ ⟨fun _ => ⟨rfl, rfl⟩, fun q => absurd a0 q⟩, Or.inl (by decide), fun post hp => pre post (br_t (by rw [hA0, nI_0]) (oc_yse (by omega) hp))⟩
    have nA0 : ¬ nI A = 0 := nI_ne0 (by omega) (by omega)
    have hl : ∀ i, i < m → ∃ l, l < 16 ∧ ml (n * 8 + i) = nI l := fun i hi => by
      obtain ⟨l, b, y1, y2, -⟩ := w6 i hi
      exact ⟨l, y1, y2⟩
    rcases Classical.em (oc_LM tm mc ml n A) with L | L
    · obtain ⟨t, e, o1, o2, o3⟩ := oc_yob (NC := NC) (TC := TC) (nc := nc) (us := us) (ob := ob) (fail := fail) (sp := sp) (ret := ret) (fu := fu) (res := res) (kY := kY) (nk := nk) (rcv := rcv) (bod := bod) (ann := ann) (par := par) (cb := cb) (oe := oe) (org := org) (co := co) (cr := cr) (gn := gn) (ge := ge) (gd := gd) (gs := gs) (tm := tm) (ml := ml) (mb := mb) (rt := rt) (rn := rn) htc (show n < 32 by omega) hA hA0 w5 w4 (fun i hi => by
        obtain ⟨l, b, y1, y2, y3, y4, -⟩ := w6 i hi
        have y5 := L.2 i (by rw [cm]; exact hi)
        rw [y2, nI_clamp (by omega)] at y5
        rcases (Y.2 A hA).2 l y1 with y | ⟨m', z4, z5⟩
        · exact absurd y y5
        · exact ⟨l, b, m', y1, y2, y3, y4, z4, z5⟩) hrt m 0 (by omega)
      exact ⟨t, e, lt _ _ ⟨fun q => absurd (by rw [← eA]; exact q) nA0, fun _ => ⟨fun q => absurd L q, fun _ => o1⟩⟩, o2, fun post hp => pre post (br_f nA0 (oc_ylm (by omega) (by omega) eA w5 w4 hl (fun _ => br_f oc_10 ⟨9, o3 post hp 9 (by omega)⟩) (fun q => absurd L q)))⟩
    · exact ⟨-5, nI n, lt _ _ ⟨fun q => absurd (by rw [← eA]; exact q) nA0, fun _ => ⟨fun _ => ⟨rfl, rfl⟩, fun q => absurd q L⟩⟩, Or.inl (by decide), fun post hp => pre post (br_f nA0 (oc_ylm (by omega) (by omega) eA w5 w4 hl (fun q => absurd q L) (fun _ => br_t rfl (oc_yse (by omega) hp))))⟩
  · -- an invocation
    have ky : kY n = 3 := by rw [hky, k1]; decide
    have nk' : nk n = nI l := by rw [hnk (by rw [k1]; decide), el]
    have va : vp_in (nI a) 32 := vp_in_nI (by omega) (by omega)
    have ca : (nI a).toNatClampNeg = a := nI_clamp (by omega)
    have lt : ∀ t e, ((rt a < 0 → t = rt a ∧ e = rn a) ∧ (¬ rt a < 0 → (rt a = 0 → t = -3 ∧ e = nI n) ∧ (¬ rt a = 0 → (tm ((rt a).toNatClampNeg * 16 + l) = -1 → t = -4 ∧ e = nI n) ∧ (¬ tm ((rt a).toNatClampNeg * 16 + l) = -1 → t = tm ((rt a).toNatClampNeg * 16 + l) ∧ e = -1)))) → oc_LT tm kd par num ann rcv bod mc ml mb r rt rn n t e := fun t e w => by
      refine ⟨fun z => ?_, fun z => ?_, fun _ => by rw [w5, ca, el, nI_clamp (n := l) (by omega)]; exact w, fun z => ?_⟩ <;> (rw [k1] at z; exact absurd z (by decide))
    have pre : ∀ post : SY → Prop, ((0 ≤ rt a → ((rt a = 0 → wpY_setErr post (nI NC, nI TC, nI tc, nI nc, fail, sp, ret, nI us, nI ob, fu, res, tm, kY, nk, rcv, bod, ann, par, mc, ml, mb, rt, upd rn n (-1), cb, oe, org, co, cr, gn, ge, gd, gs) (nI n) (-3)) ∧ (¬ rt a = 0 → wpY_typeMember (fun r_295 => (0 ≤ r_295 → (vp_in (nI n) 32 ∧ ∀ y : Nat → Int32, y = upd rt n r_295 → post (nI NC, nI TC, nI tc, nI nc, fail, sp, ret, nI us, nI ob, fu, res, tm, kY, nk, rcv, bod, ann, par, mc, ml, mb, y, upd rn n (-1), cb, oe, org, co, cr, gn, ge, gd, gs))) ∧ (¬ 0 ≤ r_295 → wpY_setErr post (nI NC, nI TC, nI tc, nI nc, fail, sp, ret, nI us, nI ob, fu, res, tm, kY, nk, rcv, bod, ann, par, mc, ml, mb, rt, upd rn n (-1), cb, oe, org, co, cr, gn, ge, gd, gs) (nI n) (-4))) (nI NC, nI TC, nI tc, nI nc, fail, sp, ret, nI us, nI ob, fu, res, tm, kY, nk, rcv, bod, ann, par, mc, ml, mb, rt, upd rn n (-1), cb, oe, org, co, cr, gn, ge, gd, gs) (rt a) (nI l)))) ∧ (¬ 0 ≤ rt a → wpY_copyRes post (nI NC, nI TC, nI tc, nI nc, fail, sp, ret, nI us, nI ob, fu, res, tm, kY, nk, rcv, bod, ann, par, mc, ml, mb, rt, upd rn n (-1), cb, oe, org, co, cr, gn, ge, gd, gs) (nI n) (nI a))) → wpY_typeOne post (nI NC, nI TC, nI tc, nI nc, fail, sp, ret, nI us, nI ob, fu, res, tm, kY, nk, rcv, bod, ann, par, mc, ml, mb, rt, rn, cb, oe, org, co, cr, gn, ge, gd, gs) (nI n) (nI r) := fun post w => by
      unfold wpY_typeOne
      refine ⟨vn, nm_e ⟨vn, ?_⟩⟩
      rw [cn]
      refine br_f (by rw [ky]; decide) ⟨vn, nm_e ⟨vn, br_f (by rw [ky]; decide) ⟨vn, ?_⟩⟩⟩
      rw [w5]
      refine nm_e ⟨va, ?_⟩
      rw [ca]
      refine ⟨fun q => ⟨va, nm_e ⟨vn, br_t ky ⟨(w.1 q).1, fun q' => ⟨vn, ?_⟩⟩⟩⟩, w.2⟩
      rw [nk']
      exact (w.1 q).2 q'
    rcases hrt a w4 with z | ⟨k, z1, z2⟩
    · exact ⟨rt a, rn a, lt _ _ ⟨fun _ => ⟨rfl, rfl⟩, fun q => absurd z q⟩, Or.inl z, fun post hp => pre post (br_f (oc_ng z) (oc_ycr (by omega) w4 hp))⟩
    have nn : ¬ rt a < 0 := by rw [z2]; exact nI_pos (by omega)
    have ck : (rt a).toNatClampNeg = k := by rw [z2, nI_clamp (by omega)]
    rw [ck] at lt
    by_cases k0 : k = 0
    · have e0 : rt a = 0 := by rw [z2, k0, nI_0]
      exact ⟨-3, nI n, lt _ _ ⟨fun q => absurd q nn, fun _ => ⟨fun _ => ⟨rfl, rfl⟩, fun q => absurd e0 q⟩⟩, Or.inl (by decide), fun post hp => pre post (br_t (oc_nn nn) (br_t e0 (oc_yse (by omega) hp)))⟩
    have e0 : ¬ rt a = 0 := by rw [z2]; exact nI_ne0 (by omega) (by omega)
    rcases (Y.2 k z1).2 l hl with y | ⟨m', y1, y2⟩
    · refine ⟨-4, nI n, lt _ _ ⟨fun q => absurd q nn, fun _ => ⟨fun q => absurd q e0, fun _ => ⟨fun _ => ⟨rfl, rfl⟩, fun q => absurd y q⟩⟩⟩, Or.inl (by decide), fun post hp => pre post (br_t (oc_nn nn) (br_f e0 ?_))⟩
      rw [z2]
      refine oc_ytm htc z1 k0 hl ?_
      rw [y]
      exact br_f (by decide) (oc_yse (by omega) hp)
    · have ny : ¬ tm (k * 16 + l) = -1 := by rw [y2]; exact oc_m1 (by omega)
      refine ⟨tm (k * 16 + l), -1, lt _ _ ⟨fun q => absurd q nn, fun _ => ⟨fun q => absurd q e0, fun _ => ⟨fun q => absurd q ny, fun _ => ⟨rfl, rfl⟩⟩⟩⟩, Or.inr ⟨m', y1, y2⟩, fun post hp => pre post (br_t (oc_nn nn) (br_f e0 ?_))⟩
      rw [z2]
      exact oc_ytm htc z1 k0 hl (br_t (by rw [y2]; exact nI_pos' (by omega)) ⟨vn, nm_e hp⟩)
  · -- an update
    have ky : kY n = 4 := by rw [hky, k1]; decide
    have nk' : nk n = nI l := by rw [hnk (by rw [k1]; decide), el]
    have va : vp_in (nI a) 32 := vp_in_nI (by omega) (by omega)
    have ca : (nI a).toNatClampNeg = a := nI_clamp (by omega)
    have vb : vp_in (nI b) 32 := vp_in_nI (by omega) (by omega)
    have cb' : (nI b).toNatClampNeg = b := nI_clamp (by omega)
    have cA : (nI A).toNatClampNeg = A := nI_clamp (by omega)
    have cl : (nI l).toNatClampNeg = l := nI_clamp (by omega)
    have lt : ∀ t e, ((rt a < 0 → t = rt a ∧ e = rn a) ∧ (¬ rt a < 0 → (nI A = 0 → t = -3 ∧ e = nI n) ∧ (¬ nI A = 0 → (tm (A * 16 + l) = -1 → t = -4 ∧ e = nI n) ∧ (¬ tm (A * 16 + l) = -1 → (¬ oc_sub tm (rt a).toNatClampNeg A → t = -6 ∧ e = nI n) ∧ (oc_sub tm (rt a).toNatClampNeg A →
        (rt b < 0 → t = rt b ∧ e = rn b) ∧ (¬ rt b < 0 → (¬ oc_sub tm (rt b).toNatClampNeg (tm (A * 16 + l)).toNatClampNeg → t = -7 ∧ e = nI n) ∧ (oc_sub tm (rt b).toNatClampNeg (tm (A * 16 + l)).toNatClampNeg → t = nI A ∧ e = -1))))))) → oc_LT tm kd par num ann rcv bod mc ml mb r rt rn n t e := fun t e w => by
      refine ⟨fun z => ?_, fun z => ?_, fun z => ?_, fun _ => by rw [w7, ca, el, cl, eA, cA, w8, cb']; exact w⟩ <;> (rw [k1] at z; exact absurd z (by decide))
    rcases hrt a w4 with z | ⟨k, z1, z2⟩
    · refine ⟨rt a, rn a, lt _ _ ⟨fun _ => ⟨rfl, rfl⟩, fun q => absurd z q⟩, Or.inl z, fun post hp => ?_⟩
      unfold wpY_typeOne
      refine ⟨vn, nm_e ⟨vn, ?_⟩⟩
      rw [cn]
      refine br_f (by rw [ky]; decide) ⟨vn, ?_⟩
      rw [eA]
      refine nm_e ⟨vn, br_f (by rw [ky]; decide) ⟨vn, ?_⟩⟩
      rw [w7]
      refine nm_e ⟨va, ?_⟩
      rw [ca]
      exact br_f (oc_ng z) (oc_ycr (by omega) w4 hp)
    have nn : ¬ rt a < 0 := by rw [z2]; exact nI_pos (by omega)
    have ck : (rt a).toNatClampNeg = k := by rw [z2, nI_clamp (by omega)]
    rw [ck] at lt
    by_cases hA0 : A = 0
    · have a0 : nI A = 0 := by rw [hA0, nI_0]
      refine ⟨-3, nI n, lt _ _ ⟨fun q => absurd q nn, fun _ => ⟨fun _ => ⟨rfl, rfl⟩, fun q => absurd a0 q⟩⟩, Or.inl (by decide), fun post hp => ?_⟩
      unfold wpY_typeOne
      refine ⟨vn, nm_e ⟨vn, ?_⟩⟩
      rw [cn]
      refine br_f (by rw [ky]; decide) ⟨vn, ?_⟩
      rw [eA]
      refine nm_e ⟨vn, br_f (by rw [ky]; decide) ⟨vn, ?_⟩⟩
      rw [w7]
      refine nm_e ⟨va, ?_⟩
      rw [ca]
      refine br_t (oc_nn nn) ⟨va, nm_e ⟨vn, br_f (by rw [ky]; decide) ?_⟩⟩
      exact br_t a0 (oc_yse (by omega) hp)
    have nA0 : ¬ nI A = 0 := nI_ne0 (by omega) (by omega)
    rcases (Y.2 A hA).2 l hl with y | ⟨m', y1, y2⟩
    · refine ⟨-4, nI n, lt _ _ ⟨fun q => absurd q nn, fun _ => ⟨fun q => absurd q nA0, fun _ => ⟨fun _ => ⟨rfl, rfl⟩, fun q => absurd y q⟩⟩⟩, Or.inl (by decide), fun post hp => ?_⟩
      unfold wpY_typeOne
      refine ⟨vn, nm_e ⟨vn, ?_⟩⟩
      rw [cn]
      refine br_f (by rw [ky]; decide) ⟨vn, ?_⟩
      rw [eA]
      refine nm_e ⟨vn, br_f (by rw [ky]; decide) ⟨vn, ?_⟩⟩
      rw [w7]
      refine nm_e ⟨va, ?_⟩
      rw [ca]
      refine br_t (oc_nn nn) ⟨va, nm_e ⟨vn, br_f (by rw [ky]; decide) ?_⟩⟩
      refine br_f nA0 ⟨vn, ?_⟩
      rw [nk', w8]
      refine oc_ytm htc hA hA0 hl ?_
      rw [y]
      exact br_f (by decide) (oc_yse (by omega) hp)
    have ny : ¬ tm (A * 16 + l) = -1 := by rw [y2]; exact oc_m1 (by omega)
    have cm' : (tm (A * 16 + l)).toNatClampNeg = m' := by rw [y2, nI_clamp (by omega)]
    rw [cm'] at lt
    rcases Classical.em (oc_sub tm k A) with s | s
    · rcases hrt b w5 with x | ⟨k', x1, x2⟩
      · refine ⟨rt b, rn b, lt _ _ ⟨fun q => absurd q nn, fun _ => ⟨fun q => absurd q nA0, fun _ => ⟨fun q => absurd q ny, fun _ => ⟨fun q => absurd s q, fun _ => ⟨fun _ => ⟨rfl, rfl⟩, fun q => absurd x q⟩⟩⟩⟩⟩, Or.inl x, fun post hp => ?_⟩
        unfold wpY_typeOne
        refine ⟨vn, nm_e ⟨vn, ?_⟩⟩
        rw [cn]
        refine br_f (by rw [ky]; decide) ⟨vn, ?_⟩
        rw [eA]
        refine nm_e ⟨vn, br_f (by rw [ky]; decide) ⟨vn, ?_⟩⟩
        rw [w7]
        refine nm_e ⟨va, ?_⟩
        rw [ca]
        refine br_t (oc_nn nn) ⟨va, nm_e ⟨vn, br_f (by rw [ky]; decide) ?_⟩⟩
        refine br_f nA0 ⟨vn, ?_⟩
        rw [nk', w8]
        refine oc_ytm htc hA hA0 hl ?_
        rw [y2]
        refine br_t (nI_pos' (by omega)) ?_
        rw [z2]
        refine oc_ysub htc z1 hA (fun _ => br_f oc_10 ⟨vn, nm_e ⟨vb, ?_⟩⟩) (fun q => absurd s q)
        rw [cb']
        exact br_f (oc_ng x) (oc_ycr (by omega) w5 hp)
      · have nx : ¬ rt b < 0 := by rw [x2]; exact nI_pos (by omega)
        have cx : (rt b).toNatClampNeg = k' := by rw [x2, nI_clamp (by omega)]
        rw [cx] at lt
        rcases Classical.em (oc_sub tm k' m') with s2 | s2
        · refine ⟨nI A, -1, lt _ _ ⟨fun q => absurd q nn, fun _ => ⟨fun q => absurd q nA0, fun _ => ⟨fun q => absurd q ny, fun _ => ⟨fun q => absurd s q, fun _ => ⟨fun q => absurd q nx, fun _ => ⟨fun q => absurd s2 q, fun _ => ⟨rfl, rfl⟩⟩⟩⟩⟩⟩⟩, Or.inr ⟨A, hA, rfl⟩, fun post hp => ?_⟩
          unfold wpY_typeOne
          refine ⟨vn, nm_e ⟨vn, ?_⟩⟩
          rw [cn]
          refine br_f (by rw [ky]; decide) ⟨vn, ?_⟩
          rw [eA]
          refine nm_e ⟨vn, br_f (by rw [ky]; decide) ⟨vn, ?_⟩⟩
          rw [w7]
          refine nm_e ⟨va, ?_⟩
          rw [ca]
          refine br_t (oc_nn nn) ⟨va, nm_e ⟨vn, br_f (by rw [ky]; decide) ?_⟩⟩
          refine br_f nA0 ⟨vn, ?_⟩
          rw [nk', w8]
          refine oc_ytm htc hA hA0 hl ?_
          rw [y2]
          refine br_t (nI_pos' (by omega)) ?_
          rw [z2]
          refine oc_ysub htc z1 hA (fun _ => br_f oc_10 ⟨vn, nm_e ⟨vb, ?_⟩⟩) (fun q => absurd s q)
          rw [cb']
          refine br_t (oc_nn nx) ⟨vb, ?_⟩
          rw [x2]
          exact oc_ysub htc x1 y1 (fun _ => br_f oc_10 ⟨vn, nm_e hp⟩) (fun q => absurd s2 q)
        · refine ⟨-7, nI n, lt _ _ ⟨fun q => absurd q nn, fun _ => ⟨fun q => absurd q nA0, fun _ => ⟨fun q => absurd q ny, fun _ => ⟨fun q => absurd s q, fun _ => ⟨fun q => absurd q nx, fun _ => ⟨fun _ => ⟨rfl, rfl⟩, fun q => absurd q s2⟩⟩⟩⟩⟩⟩, Or.inl (by decide), fun post hp => ?_⟩
          unfold wpY_typeOne
          refine ⟨vn, nm_e ⟨vn, ?_⟩⟩
          rw [cn]
          refine br_f (by rw [ky]; decide) ⟨vn, ?_⟩
          rw [eA]
          refine nm_e ⟨vn, br_f (by rw [ky]; decide) ⟨vn, ?_⟩⟩
          rw [w7]
          refine nm_e ⟨va, ?_⟩
          rw [ca]
          refine br_t (oc_nn nn) ⟨va, nm_e ⟨vn, br_f (by rw [ky]; decide) ?_⟩⟩
          refine br_f nA0 ⟨vn, ?_⟩
          rw [nk', w8]
          refine oc_ytm htc hA hA0 hl ?_
          rw [y2]
          refine br_t (nI_pos' (by omega)) ?_
          rw [z2]
          refine oc_ysub htc z1 hA (fun _ => br_f oc_10 ⟨vn, nm_e ⟨vb, ?_⟩⟩) (fun q => absurd s q)
          rw [cb']
          refine br_t (oc_nn nx) ⟨vb, ?_⟩
          rw [x2]
          exact oc_ysub htc x1 y1 (fun q => absurd q s2) (fun _ => br_t rfl (oc_yse (by omega) hp))
    · refine ⟨-6, nI n, lt _ _ ⟨fun q => absurd q nn, fun _ => ⟨fun q => absurd q nA0, fun _ => ⟨fun q => absurd q ny, fun _ => ⟨fun _ => ⟨rfl, rfl⟩, fun q => absurd q s⟩⟩⟩⟩, Or.inl (by decide), fun post hp => ?_⟩
      unfold wpY_typeOne
      refine ⟨vn, nm_e ⟨vn, ?_⟩⟩
      rw [cn]
      refine br_f (by rw [ky]; decide) ⟨vn, ?_⟩
      rw [eA]
      refine nm_e ⟨vn, br_f (by rw [ky]; decide) ⟨vn, ?_⟩⟩
      rw [w7]
      refine nm_e ⟨va, ?_⟩
      rw [ca]
      refine br_t (oc_nn nn) ⟨va, nm_e ⟨vn, br_f (by rw [ky]; decide) ?_⟩⟩
      refine br_f nA0 ⟨vn, ?_⟩
      rw [nk', w8]
      refine oc_ytm htc hA hA0 hl ?_
      rw [y2]
      refine br_t (nI_pos' (by omega)) ?_
      rw [z2]
      exact oc_ysub htc z1 hA (fun q => absurd q s) (fun _ => br_t rfl (oc_yse (by omega) hp))
/-! the whole check -/
theorem oc_yck {NC TC tc nc us ob : Nat} {fail sp ret fu res : Int32} {tm kY nk rcv bod ann par mc ml mb rt rn cb oe org co cr gn ge gd gs : Nat → Int32} {num kd mk : Nat → Int32} {r : Nat} (hc : nc ≤ 32) (htc : tc ≤ 32) (hr : r < nc) (N : oc_Nd nc tc kd par num ann rcv bod mc ml mb) (hK : ∀ n, n < nc → kY n = kd n + 1 ∧ (¬ kd n = 1 → nk n = num n)) (Y : oc_Ty tc tm mk) :
    ∃ rt' rn' : Nat → Int32, oc_Tab tc tm kd par num ann rcv bod mc ml mb r rt' rn' (r + 1) ∧ ∀ post : Int32 → SY → Prop, (rt' r < 0 → post (rt' r) (nI NC, nI TC, nI tc, nI nc, rn' r, sp, ret, nI us, nI ob, fu, res, tm, kY, nk, rcv, bod, ann, par, mc, ml, mb, rt', rn', cb, oe, org, co, cr, gn, ge, gd, gs)) → (¬ rt' r < 0 → post (rt' r) (nI NC, nI TC, nI tc, nI nc, -1, sp, ret, nI us, nI ob, fu, res, tm, kY, nk, rcv, bod, ann, par, mc, ml, mb, rt', rn', cb, oe, org, co, cr, gn, ge, gd, gs)) → wpY_check post (nI NC, nI TC, nI tc, nI nc, fail, sp, ret, nI us, nI ob, fu, res, tm, kY, nk, rcv, bod, ann, par, mc, ml, mb, rt, rn, cb, oe, org, co, cr, gn, ge, gd, gs) (nI r) := by
  have key : ∀ d i, i + d = r + 1 → ∀ rt rn : Nat → Int32, oc_Tab tc tm kd par num ann rcv bod mc ml mb r rt rn i → ∃ rt' rn' : Nat → Int32, oc_Tab tc tm kd par num ann rcv bod mc ml mb r rt' rn' (r + 1) ∧ ∀ post : Int32 → SY → Prop, (rt' r < 0 → post (rt' r) (nI NC, nI TC, nI tc, nI nc, rn' r, sp, ret, nI us, nI ob, fu, res, tm, kY, nk, rcv, bod, ann, par, mc, ml, mb, rt', rn', cb, oe, org, co, cr, gn, ge, gd, gs)) → (¬ rt' r < 0 → post (rt' r) (nI NC, nI TC, nI tc, nI nc, -1, sp, ret, nI us, nI ob, fu, res, tm, kY, nk, rcv, bod, ann, par, mc, ml, mb, rt', rn', cb, oe, org, co, cr, gn, ge, gd, gs)) → wY_check_17 post (nI r) (d + 1) (nI i) (nI NC) (nI TC) (nI tc) (nI nc) fail sp ret (nI us) (nI ob) fu res tm kY nk rcv bod ann par mc ml mb rt rn cb oe org co cr gn ge gd gs := by
    intro d
    induction d with
    | zero =>
      intro i hi rt rn T
      have vr : vp_in (nI r) 32 := vp_in_nI (by omega) (by omega)
      rw [show i = r + 1 by omega] at T ⊢
      refine ⟨rt, rn, T, fun post h1 h0 => br_t (nI_lt (by omega) (by omega)) ⟨vr, ?_⟩⟩
      rw [nI_clamp (n := r) (by omega)]
      by_cases z : rt r < 0
      · exact br_f (oc_ng z) ⟨vr, nm_e ⟨vr, h1 z⟩⟩
      · exact br_t (oc_nn z) ⟨vr, h0 z⟩
    | succ d ih =>
      intro i hi rt rn T
      obtain ⟨t, e, o1, o2, o3⟩ := oc_yone (NC := NC) (TC := TC) (us := us) (ob := ob) (fail := fail) (sp := sp) (ret := ret) (fu := fu) (res := res) (cb := cb) (oe := oe) (org := org) (co := co) (cr := cr) (gn := gn) (ge := ge) (gd := gd) (gs := gs) (rt := rt) (rn := rn) hc htc hr (show i < nc by omega) N hK Y (fun b hb => (T b hb).2)
      obtain ⟨rt', rn', p1, p2⟩ := ih (i + 1) (by omega) (upd rt i t) (upd rn i e) (oc_Tab_up hc (by omega) N T o1 o2)
      refine ⟨rt', rn', p1, fun post h1 h0 => br_f (nI_nlt (by omega) (by omega)) (o3 _ (nm_r (nI_1 i) (p2 post h1 h0)))⟩
  obtain ⟨rt', rn', p1, p2⟩ := key (r + 1) 0 (by omega) rt rn (fun n hn => absurd hn (Nat.not_lt_zero _))
  refine ⟨rt', rn', p1, fun post h1 h0 => ?_⟩
  unfold wpY_check
  exact oc_yN1 hr hc ⟨r + 2, p2 post h1 h0⟩
theorem i_vc_check {k : Nat} {u : SX} {v : SY} (I : i_Rel k u v) (hk : k + 5 ≤ 2562) (v1 : Int32) : wpX_check (fun r u' => wpY_check (fun r' v' => r' = r ∧ i_Rel (k + 5) u' v') v v1) u v1 := by
  obtain ⟨NC, TC, tc, nc, us, ob, fail, res, fl, fc, val, sp, ret, fu, tm, mk, kd, par, num, ann, rcv, bod, mc, ml, mb, cd, cb, ce, org, co, cr, fn, fe, fp, kY, nk, rt, rn, oe, gn, ge, gd, gs, rfl, rfl, hI⟩ := I
  have H := hI
  obtain ⟨h1, h2, h3, h4, h5, h6, h7, hN, hT, hm, hK, hr⟩ := hI
  unfold wpX_check
  rcases oc_ix v1 (n := nc) (by omega) with a | ⟨a, ha, rfl⟩
  · refine oc_xN0 a ?_
    unfold wpY_check
    exact oc_yN0 a ⟨rfl, oc_mk H⟩
  · refine oc_xN1 ha (by omega) ?_
    obtain ⟨rt', rn', p1, p2⟩ := oc_yck (NC := NC) (TC := TC) (us := us) (ob := ob) (fail := fail) (sp := sp) (ret := ret) (fu := fu) (res := res) (cb := cb) (oe := oe) (org := org) (co := co) (cr := cr) (gn := gn) (ge := ge) (gd := gd) (gs := gs) (rt := rt) (rn := rn) (show nc ≤ 32 by omega) (show tc ≤ 32 by omega) ha hN hK hT
    refine oc_xck (fail := fail) (by omega) (by omega) ha hN hT p1 (fun z cd' => ?_) (fun z cd' => ?_)
    · exact p2 _ (fun _ => ⟨rfl, oc_mk H⟩) (fun q => absurd z q)
    · exact p2 _ (fun q => absurd q z) (fun _ => ⟨rfl, oc_mk H⟩)
