theorem oc_ng {x : Int32} (h : x < 0) : ¬ 0 ≤ x := Int32.not_le.mpr h
theorem oc_nn {x : Int32} (h : ¬ x < 0) : 0 ≤ x := Int32.not_lt.mp h
theorem oc_i8p (n i : Nat) : nI n * 8 + nI (i + 1) - 1 = nI (n * 8 + i) := by
  rw [oc_i8, ← Nat.add_assoc, nI_pred]
theorem oc_xhl {NC TC tc nc us ob : Nat} {fail res fl fc val : Int32} {tm mk kd par num ann rcv bod mc ml mb cd cb ce org co cr fn fe fp : Nat → Int32} {post : Int32 → Prop} {n A m : Nat} (hn : n < 32) (hA : A < 32) (hm : mc n = nI m) (hm8 : m ≤ 8) (hl : ∀ i, i < m → ∃ l, l < 16 ∧ ml (n * 8 + i) = nI l) (hmk : mk A = nI (oc_lc tm A))
    (h1 : oc_LM tm mc ml n A → post 1) (h0 : ¬ oc_LM tm mc ml n A → post 0) : wpX_hasLabelsOf post (nI NC, nI TC, nI tc, nI nc, fail, res, fl, nI us, nI ob, fc, val, tm, mk, kd, par, num, ann, rcv, bod, mc, ml, mb, cd, cb, ce, org, co, cr, fn, fe, fp) (nI n) (nI A) := by
  have vn : vp_in (nI n) 32 := vp_in_nI hn (by omega)
  have cn : (nI n).toNatClampNeg = n := nI_clamp (by omega)
  have cm : (mc n).toNatClampNeg = m := by rw [hm, nI_clamp (by omega)]
  have key : mc n = nI (oc_lc tm A) → ∀ d i, i + d = m → (∀ i', i' < i → ¬ tm (A * 16 + (ml (n * 8 + i')).toNatClampNeg) = -1) → wX_hasLabelsOf_19 post (nI n) (nI A) (nI NC) (nI TC) (nI tc) (nI nc) fail res fl (nI us) (nI ob) fc val tm mk kd par num ann rcv bod mc ml mb cd cb ce org co cr fn fe fp (d + 1) (nI i) := by
    intro em d
    induction d with
    | zero =>
      intro i hi hq
      refine ⟨vn, ?_⟩
      rw [cn, hm]
      exact br_t (nI_le (by omega) (by omega)) (h1 ⟨em, fun i' hi' => hq i' (by rw [cm] at hi'; omega)⟩)
    | succ d ih =>
      intro i hi hq
      obtain ⟨l, l1, l2⟩ := hl i (by omega)
      refine ⟨vn, ?_⟩
      rw [cn, hm]
      refine br_f (nI_ge (by omega) (by omega)) ⟨oc_v8 hn (by omega), ?_⟩
      rw [oc_k8 hn (by omega), l2]
      refine nm_e ⟨oc_v16 hA l1, ?_⟩
      rw [oc_k16 hA l1]
      by_cases z : tm (A * 16 + l) = -1
      · refine br_t z (h0 fun w => w.2 i (by rw [cm]; omega) ?_)
        rw [l2, nI_clamp (by omega)]; exact z
      · refine br_f z (nm_r (nI_1 i) (ih (i + 1) (by omega) fun i' hi' => ?_))
        by_cases y : i' = i
        · rw [y, l2, nI_clamp (by omega)]; exact z
        · exact hq i' (by omega)
  unfold wpX_hasLabelsOf
  refine ⟨vn, vp_in_nI hA (by omega), ?_⟩
  rw [cn, nI_clamp (n := A) (by omega), hmk]
  by_cases e : mc n = nI (oc_lc tm A)
  · exact br_t e ⟨m + 1, key e m 0 (by omega) fun i' hi' => absurd hi' (Nat.not_lt_zero _)⟩
  · exact br_f e (h0 fun w => e w.1)
theorem oc_xvd {NC TC tc nc us ob : Nat} {fail res fl fc val : Int32} {tm mk kd par num ann rcv bod mc ml mb cd cb ce org co cr fn fe fp : Nat → Int32} {post : Int32 → Prop} {r n : Nat} {ct v : Int32} (hc : nc ≤ 32) (htc : tc ≤ 32) (hr : r < nc) (hn : n < nc) (N : oc_Nd nc tc kd par num ann rcv bod mc ml mb) (Y : oc_Ty tc tm mk)
    (V : oc_Vd tc tm kd par num ann bod mc ml r n ct cd v) (h : post v) : wpX_verdictAt post (nI NC, nI TC, nI tc, nI nc, fail, res, fl, nI us, nI ob, fc, val, tm, mk, kd, par, num, ann, rcv, bod, mc, ml, mb, cd, cb, ce, org, co, cr, fn, fe, fp) (nI n) ct (nI r) := by
  have vn : vp_in (nI n) 32 := vp_in_nI (by omega) (by omega)
  have cn : (nI n).toNatClampNeg = n := nI_clamp (by omega)
  unfold wpX_verdictAt
  refine ⟨vn, ?_⟩
  rw [cn]
  rcases V with ⟨k1, V⟩ | ⟨k1, V⟩ | ⟨k1, V⟩ | ⟨k1, V⟩
  · refine nm_r k1 (br_f (by decide) (br_f (by decide) (br_t rfl ?_)))
    obtain ⟨k, hk, ek⟩ := oc_var N hn k1
    unfold oc_V0 at V
    rw [ek, nI_clamp (by omega)] at V
    unfold wpX_variableVerdict
    refine oc_xbo hc hr (oc_Nd_Pa N) hn hk ek (fun p hp e => br_f (oc_m1 (by omega)) ⟨vp_in_nI (by omega) (by omega), ?_⟩) (fun e => br_t rfl ?_)
    · rw [nI_clamp (n := p) (by omega)]
      rcases V with ⟨p', e1, e2⟩ | ⟨e1, e2⟩
      · have : p' = p := by rw [e] at e1; omega
        rw [← this, ← e2]; exact h
      · exact absurd e (e1 p)
    · rcases V with ⟨p', e1, e2⟩ | ⟨e1, e2⟩
      · exact absurd e1 (e p')
      · rw [← e2]; exact h
  · refine nm_r k1 (br_f (by decide) (br_f (by decide) (br_f (by decide) (br_t rfl ?_))))
    obtain ⟨-, ⟨q1, -⟩ | ⟨q1, q2, ⟨A, hA, eA⟩, m, w4, w5, w6, w7⟩ | ⟨q1, -⟩ | ⟨q1, -⟩⟩ := N n hn
    · rw [k1] at q1; exact absurd q1 (by decide)
    · have cm : (mc n).toNatClampNeg = m := by rw [w5, nI_clamp (by omega)]
      have cA : (ann n).toNatClampNeg = A := by rw [eA, nI_clamp (by omega)]
      unfold oc_V1 oc_Ok at V
      rw [cm, cA] at V
      unfold wpX_objectVerdict
      refine ⟨vn, ?_⟩
      rw [cn]
      refine nm_e ⟨vn, nm_e ?_⟩
      rcases V with ⟨x1, x2⟩ | ⟨x1, V⟩
      · exact br_t x1 (by rw [← x2]; exact h)
      refine br_f x1 ?_
      rw [eA]
      refine oc_xhl (by omega) (by omega) w5 w4 (fun i hi => ?_) (Y.2 A hA).1 (fun L => br_f oc_10 ?_) (fun L => br_t rfl ?_)
      · obtain ⟨l, b, y1, y2, -⟩ := w6 i hi
        exact ⟨l, y1, y2⟩
      · rcases V with ⟨x2, -⟩ | ⟨-, V⟩
        · exact absurd L x2
        have mem : ∀ i, i < m → ∃ l m', l < 16 ∧ ml (n * 8 + i) = nI l ∧ m' < tc ∧ tm (A * 16 + l) = nI m' := fun i hi => by
          obtain ⟨l, b, y1, y2, -⟩ := w6 i hi
          have y3 := L.2 i (by rw [cm]; exact hi)
          rw [y2, nI_clamp (by omega)] at y3
          rcases (Y.2 A hA).2 l y1 with y | ⟨m', y4, y5⟩
          · exact absurd y y3
          · exact ⟨l, m', y1, y2, y4, y5⟩
        have last : ∀ i, cd n = nI i → i ≤ m → ((i < m ∧ v = -100) ∨ (i = m ∧ v = ann n)) → wX_objectVerdict_78 post (nI n) (nI A) (cd n) (nI NC) (nI TC) (nI tc) (nI nc) fail res fl (nI us) (nI ob) fc val tm mk kd par num ann rcv bod mc ml mb cd cb ce org co cr fn fe fp := fun i ed hi w => by
          unfold wX_objectVerdict_78
          refine ⟨vn, ?_⟩
          rw [cn, w5, ed]
          refine pk_le m i (fun q => ?_) (fun q => ?_)
          · rcases w with ⟨a, -⟩ | ⟨-, b⟩
            · omega
            · rw [← eA, ← b]; exact h
          · rcases w with ⟨-, b⟩ | ⟨a, -⟩
            · rw [← b]; exact h
            · omega
        have step : ∀ i k, cd n = nI (i + 1) → i < m → k < tc → ct = nI k → (oc_sub tm k (tm (A * 16 + (ml (n * 8 + i)).toNatClampNeg)).toNatClampNeg → wX_objectVerdict_78 post (nI n) (nI A) (cd n) (nI NC) (nI TC) (nI tc) (nI nc) fail res fl (nI us) (nI ob) fc val tm mk kd par num ann rcv bod mc ml mb cd cb ce org co cr fn fe fp) → (¬ oc_sub tm k (tm (A * 16 + (ml (n * 8 + i)).toNatClampNeg)).toNatClampNeg → post (-7)) →
            (cd n ≤ 0 → wX_objectVerdict_78 post (nI n) (nI A) (cd n) (nI NC) (nI TC) (nI tc) (nI nc) fail res fl (nI us) (nI ob) fc val tm mk kd par num ann rcv bod mc ml mb cd cb ce org co cr fn fe fp) ∧ (¬ cd n ≤ 0 → (vp_in (nI n * 8 + cd n - 1) 256 ∧ ∀ x5 : Int32, x5 = ml (nI n * 8 + cd n - 1).toNatClampNeg → (vp_in (nI A * 16 + x5) 512 ∧ wpX_fits (fun r_45 => (r_45 = 0 → post (-7)) ∧ (¬ r_45 = 0 → wX_objectVerdict_78 post (nI n) (nI A) (cd n) (nI NC) (nI TC) (nI tc) (nI nc) fail res fl (nI us) (nI ob) fc val tm mk kd par num ann rcv bod mc ml mb cd cb ce org co cr fn fe fp)) (nI NC, nI TC, nI tc, nI nc, fail, res, fl, nI us, nI ob, fc, val, tm, mk, kd, par, num, ann, rcv, bod, mc, ml, mb, cd, cb, ce, org, co, cr, fn, fe, fp) ct (tm (nI A * 16 + x5).toNatClampNeg)))) := fun i k ed hi hk ek g1 g0 => by
          obtain ⟨l, m', y1, y2, y3, y4⟩ := mem i hi
          refine br_f (by rw [ed]; exact nI_nle (by omega) (by omega)) ⟨?_, ?_⟩
          · rw [ed, oc_i8p]; exact vp_in_nI (by omega) (by omega)
          · rw [show nI n * 8 + cd n - 1 = nI (n * 8 + i) by rw [ed, oc_i8p], nI_clamp (n := n * 8 + i) (by omega), y2]
            rw [y2, nI_clamp (n := l) (by omega), y4, nI_clamp (n := m') (by omega)] at g1 g0
            refine nm_e ⟨oc_v16 (by omega) y1, ?_⟩
            rw [oc_k16 (by omega) y1, y4, ek]
            exact oc_xfits (by omega) (by omega) (fun q => br_f oc_10 (g1 q)) (fun q => br_t rfl (g0 q))
        rcases V with ⟨i, k, x2, x3, x4, x5, x6, x7⟩ | ⟨i, x2, x3, x4, x5⟩
        · exact step i k x2 x3 x4 x5 (fun q => absurd q x6) (fun _ => by rw [← x7]; exact h)
        · rcases x4 with rfl | ⟨i', k, rfl, y2, y3, y4⟩
          · refine br_t (by rw [x2]; decide) (last 0 x2 x3 x5)
          · exact step i' k x2 (by omega) y2 y3 (fun _ => last (i' + 1) x2 x3 x5) (fun q => absurd y4 q)
      · rcases V with ⟨-, x3⟩ | ⟨x2, -⟩
        · rw [← x3]; exact h
        · exact absurd x2 L
    · rw [k1] at q1; exact absurd q1 (by decide)
    · rw [k1] at q1; exact absurd q1 (by decide)
  · refine nm_r k1 (br_f (by decide) (br_f (by decide) (br_f (by decide) (br_f (by decide) (br_t rfl ?_)))))
    obtain ⟨-, ⟨q1, -⟩ | ⟨q1, -⟩ | ⟨q1, q2, ⟨l, hl, el⟩, -⟩ | ⟨q1, -⟩⟩ := N n hn
    · rw [k1] at q1; exact absurd q1 (by decide)
    · rw [k1] at q1; exact absurd q1 (by decide)
    · unfold oc_V2 at V
      rw [el, nI_clamp (by omega)] at V
      unfold wpX_selectVerdict
      refine ⟨vn, ?_⟩
      rw [cn]
      rcases V with ⟨x1, x2⟩ | ⟨x1, V⟩
      · exact br_t x1 (by rw [← x2]; exact h)
      refine br_f x1 ?_
      rcases V with ⟨x2, x3⟩ | ⟨k, x2, x3, x4, V⟩
      · exact br_t x2 (by rw [← x3]; exact h)
      · rw [x4, el]
        refine br_f (nI_ne0 (by omega) (by omega)) ⟨vn, oc_v16 (by omega) hl, ?_⟩
        rw [oc_k16 (by omega) hl]
        rcases V with ⟨y1, y2⟩ | ⟨y1, y2⟩
        · exact nm_e (br_t y1 (by rw [← y2]; exact h))
        · exact nm_e (br_f y1 (by rw [← y2]; exact h))
    · rw [k1] at q1; exact absurd q1 (by decide)
  · refine nm_r k1 (br_f (by decide) (br_t (by decide) ?_))
    obtain ⟨-, ⟨q1, -⟩ | ⟨q1, -⟩ | ⟨q1, -⟩ | ⟨q1, ⟨l, hl, el⟩, ⟨A, hA, eA⟩, -⟩⟩ := N n hn
    · rw [k1] at q1; exact absurd q1 (by decide)
    · rw [k1] at q1; exact absurd q1 (by decide)
    · rw [k1] at q1; exact absurd q1 (by decide)
    · unfold oc_V3 at V
      rw [el, nI_clamp (n := l) (by omega), eA, nI_clamp (n := A) (by omega)] at V
      unfold wpX_updateVerdict
      refine ⟨vn, ?_⟩
      rw [cn, eA, el]
      rcases V with ⟨x1, x2⟩ | ⟨x1, V⟩
      · exact br_t x1 (by rw [← x2]; exact h)
      refine br_f x1 ⟨vn, nm_e ?_⟩
      rcases V with ⟨x2, x3⟩ | ⟨x2, V⟩
      · exact br_t x2 (by rw [← x3]; exact h)
      refine br_f x2 ⟨vn, oc_v16 (by omega) hl, ?_⟩
      rw [oc_k16 (by omega) hl]
      refine nm_e ?_
      rcases V with ⟨x3, x4⟩ | ⟨x3, k, x4, x5, V⟩
      · exact br_t x3 (by rw [← x4]; exact h)
      refine br_f x3 ⟨vn, ?_⟩
      rcases (Y.2 A hA).2 l hl with y | ⟨m', y1, y2⟩
      · exact absurd y x3
      rw [y2, nI_clamp (n := m') (by omega)] at V
      rw [y2, x5]
      rcases V with ⟨z1, z2, z3⟩ | ⟨z1, z2, z3⟩ | ⟨z1, z2, z3⟩ | ⟨z1, z2, z3⟩
      · exact br_t z1 (oc_xfits (by omega) (by omega) (fun _ => br_f oc_10 (by rw [← z3]; exact h)) (fun q => absurd z2 q))
      · exact br_t z1 (oc_xfits (by omega) (by omega) (fun q => absurd q z2) (fun _ => br_t rfl (by rw [← z3]; exact h)))
      · exact br_f z1 (oc_xfits (by omega) (by omega) (fun _ => br_f oc_10 (by rw [← z3]; exact h)) (fun q => absurd z2 q))
      · exact br_f z1 (oc_xfits (by omega) (by omega) (fun q => absurd q z2) (fun _ => br_t rfl (by rw [← z3]; exact h)))
theorem oc_xck {NC TC tc nc us ob : Nat} {fail res fl fc val : Int32} {tm mk kd par num ann rcv bod mc ml mb cd cb ce org co cr fn fe fp : Nat → Int32} {post : Int32 → St2 → Prop} {r : Nat} {rt rn : Nat → Int32} (hc : nc ≤ 32) (htc : tc ≤ 32) (hr : r < nc) (N : oc_Nd nc tc kd par num ann rcv bod mc ml mb) (Y : oc_Ty tc tm mk) (T : oc_Tab tc tm kd par num ann rcv bod mc ml mb r rt rn (r + 1))
    (hE : rt r < 0 → ∀ cd, post (rt r) (nI NC, nI TC, nI tc, nI nc, rn r, res, fl, nI us, nI ob, fc, val, tm, mk, kd, par, num, ann, rcv, bod, mc, ml, mb, cd, cb, ce, org, co, cr, fn, fe, fp)) (hR : ¬ rt r < 0 → ∀ cd, post (rt r) (nI NC, nI TC, nI tc, nI nc, -1, res, fl, nI us, nI ob, fc, val, tm, mk, kd, par, num, ann, rcv, bod, mc, ml, mb, cd, cb, ce, org, co, cr, fn, fe, fp)) : wpX_typeOfTerm post (nI NC, nI TC, nI tc, nI nc, -1, res, fl, nI us, nI ob, fc, val, tm, mk, kd, par, num, ann, rcv, bod, mc, ml, mb, cd, cb, ce, org, co, cr, fn, fe, fp) (nI r) := by
  unfold wpX_typeOfTerm
  refine ⟨vp_in_nI (by omega) (by omega), nm_e ⟨65, ?_⟩⟩
  rw [nI_clamp (n := r) (by omega)]
  have sz := oc_sz_n par nc r
  refine oc_dfs hc htc hr N Y T (fun f s n ct cd => wX_typeOfTerm_14 post (nI r) (nI NC) (nI TC) (nI tc) (nI nc) (-1) res fl (nI us) (nI ob) fc val f (nI n) ct (nI s) tm mk kd par num ann rcv bod mc ml mb cd cb ce org co cr fn fe fp) (fun v e cd => post v (nI NC, nI TC, nI tc, nI nc, e, res, fl, nI us, nI ob, fc, val, tm, mk, kd, par, num, ann, rcv, bod, mc, ml, mb, cd, cb, ce, org, co, cr, fn, fe, fp)) (fun v cd => post v (nI NC, nI TC, nI tc, nI nc, -1, res, fl, nI us, nI ob, fc, val, tm, mk, kd, par, num, ann, rcv, bod, mc, ml, mb, cd, cb, ce, org, co, cr, fn, fe, fp)) ?_ ?_ ?_ ?_ r (Nat.le_refl _) 65 0 (-1) (upd cd r 0) pk_us (by omega) (by omega) (Or.inl rfl) hE (fun a _ => hR a) (fun _ a => absurd rfl a)
  · intro f s n c ct cd hs hn hcn V hO hU hW
    refine br_f (nI_ge (b := 64) (by omega) (by omega)) (oc_xvd hc htc hr hn N Y V (br_t rfl ?_))
    have vn : vp_in (nI n) 32 := vp_in_nI (by omega) (by omega)
    have cn : (nI n).toNatClampNeg = n := nI_clamp (by omega)
    have go : vp_in (nI c) 32 ∧ ∀ y : Nat → Int32, y = upd cd (nI c).toNatClampNeg 0 → ∀ x : Int32, x = nI s + 1 → wX_typeOfTerm_14 post (nI r) (nI NC) (nI TC) (nI tc) (nI nc) (-1) res fl (nI us) (nI ob) fc val f (nI c) ct x tm mk kd par num ann rcv bod mc ml mb y cb ce org co cr fn fe fp := by
      refine ⟨vp_in_nI (by omega) (by omega), nm_e (nm_r (nI_1 s) ?_)⟩
      rw [nI_clamp (n := c) (by omega)]
      exact hW
    unfold wpX_nextChild
    refine ⟨vn, ?_⟩
    rw [cn]
    by_cases k1 : kd n = 1
    · obtain ⟨i, hi, e1, e2⟩ := hO k1
      refine br_t k1 ⟨vn, ?_⟩
      rw [e1]
      refine ⟨oc_v8 (by omega) hi, ?_⟩
      rw [oc_k8 (by omega) hi, e2]
      exact go
    · refine br_f k1 ⟨vn, ?_⟩
      by_cases z : cd n = 0
      · refine br_t z ⟨vn, ?_⟩
        rw [(hU k1).1 z]
        exact go
      · refine br_f z ⟨vn, ?_⟩
        rw [(hU k1).2 z]
        exact go
  · intro f s n ct cd v hs hn V h1 h2 h3
    exact br_f (nI_ge (b := 64) (by omega) (by omega)) (oc_xvd hc htc hr hn N Y V (br_f h2 (br_f (oc_ng h1) h3)))
  · intro f s ct cd v hs V h1 h2
    refine br_f (nI_ge (b := 64) (by omega) (by omega)) (oc_xvd hc htc hr hr N Y V (br_f (fun q => h1 ?_) (br_t (oc_nn h1) (br_t rfl h2))))
    rw [q]; decide
  · intro f s n p ct cd v hs hn hp ne ep V h1 h2
    have vn : vp_in (nI n) 32 := vp_in_nI (by omega) (by omega)
    have vp : vp_in (nI p) 32 := vp_in_nI (by omega) (by omega)
    refine br_f (nI_ge (b := 64) (by omega) (by omega)) (oc_xvd hc htc hr hn N Y V (br_f (fun q => h1 ?_) (br_t (oc_nn h1) (br_f (fun q => ne ((nI_eq (by omega) (by omega)).mp q)) ⟨vn, ?_⟩))))
    · rw [q]; decide
    · rw [nI_clamp (n := n) (by omega), ep]
      refine nm_e ⟨vp, vp, nm_e (nm_r (nI_1 s) ?_)⟩
      rw [nI_clamp (n := p) (by omega)]
      exact h2
