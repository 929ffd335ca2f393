theorem oc_xnode {NC TC tc nc us ob : Nat} {fail res fl fc val : Int32} {tm mk kd par num ann rcv bod mc ml mb cd cb ce org co cr fn fe fp : Nat → Int32} {post : Int32 → St2 → Prop} {p0 p1 p2 : Int32} (hn : nc < 32)
    (h : post (nI nc) (nI NC, nI TC, nI tc, nI (nc + 1), fail, res, fl, nI us, nI ob, fc, val, tm, mk, upd kd nc p0, upd par nc (-1), upd num nc p1, upd ann nc p2, upd rcv nc (-1), upd bod nc (-1), mc, ml, mb, cd, cb, ce, org, co, cr, fn, fe, fp)) : wpX_newNode post (nI NC, nI TC, nI tc, nI nc, fail, res, fl, nI us, nI ob, fc, val, tm, mk, kd, par, num, ann, rcv, bod, mc, ml, mb, cd, cb, ce, org, co, cr, fn, fe, fp) p0 p1 p2 := by
  have hi : vp_in (nI nc) 32 := vp_in_nI hn (by omega)
  refine ⟨hi, nm_e ⟨hi, nm_e ⟨hi, nm_e ⟨hi, nm_e ⟨hi, nm_e ⟨hi, nm_e (nm_e ?_)⟩⟩⟩⟩⟩⟩
  rw [nI_clamp (n := nc) (by omega), nI_1]
  exact h
theorem oc_xLo1 {NC TC tc nc us ob : Nat} {fail res fl fc val : Int32} {tm mk kd par num ann rcv bod mc ml mb cd cb ce org co cr fn fe fp : Nat → Int32} {A B : Prop} {j : Nat} (hj : j < nc) (ht : nc ≤ 32) (hp : par j = -1) (hB : B) : wpX_isLoose (fun r => (r = 0 → A) ∧ (¬ r = 0 → B)) (nI NC, nI TC, nI tc, nI nc, fail, res, fl, nI us, nI ob, fc, val, tm, mk, kd, par, num, ann, rcv, bod, mc, ml, mb, cd, cb, ce, org, co, cr, fn, fe, fp) (nI j) := by
  unfold wpX_isLoose
  refine oc_xN1 hj ht ⟨vp_in_nI (by omega) (by omega), ?_⟩
  rw [nI_clamp (n := j) (by omega)]
  exact br_t hp (br_f oc_10 hB)
theorem oc_xLo0 {NC TC tc nc us ob : Nat} {fail res fl fc val : Int32} {tm mk kd par num ann rcv bod mc ml mb cd cb ce org co cr fn fe fp : Nat → Int32} {A B : Prop} {t : Int32} (ht : nc ≤ 32) (h : (t < 0 ∨ nI nc ≤ t) ∨ ∃ j, j < nc ∧ t = nI j ∧ ¬ par j = -1) (hA : A) : wpX_isLoose (fun r => (r = 0 → A) ∧ (¬ r = 0 → B)) (nI NC, nI TC, nI tc, nI nc, fail, res, fl, nI us, nI ob, fc, val, tm, mk, kd, par, num, ann, rcv, bod, mc, ml, mb, cd, cb, ce, org, co, cr, fn, fe, fp) t := by
  unfold wpX_isLoose
  rcases h with h | ⟨j, hj, rfl, hp⟩
  · exact oc_xN0 h (br_t rfl hA)
  · refine oc_xN1 hj ht ⟨vp_in_nI (by omega) (by omega), ?_⟩
    rw [nI_clamp (n := j) (by omega)]
    exact br_f hp (br_t rfl hA)
theorem oc_xhas {NC TC tc nc us ob : Nat} {fail res fl fc val : Int32} {tm mk kd par num ann rcv bod mc ml mb cd cb ce org co cr fn fe fp : Nat → Int32} {post : Int32 → Prop} {o m l : Nat} (ho : o < 32) (hm : mc o = nI m) (hm8 : m ≤ 8) (h1 : (∃ i, i < m ∧ ml (o * 8 + i) = nI l) → post 1) (h0 : (¬ ∃ i, i < m ∧ ml (o * 8 + i) = nI l) → post 0) : wpX_hasMethod post (nI NC, nI TC, nI tc, nI nc, fail, res, fl, nI us, nI ob, fc, val, tm, mk, kd, par, num, ann, rcv, bod, mc, ml, mb, cd, cb, ce, org, co, cr, fn, fe, fp) (nI o) (nI l) := by
  have key : ∀ d i, i + d = m → (∀ i', i' < i → ¬ ml (o * 8 + i') = nI l) → wX_hasMethod_2 post (nI o) (nI l) (nI NC) (nI TC) (nI tc) (nI nc) fail res fl (nI us) (nI ob) fc val tm mk kd par num ann rcv bod mc ml mb cd cb ce org co cr fn fe fp (d + 1) (nI i) := by
    intro d
    induction d with
    | zero =>
      intro i hi hn
      refine ⟨vp_in_nI ho (by omega), ?_⟩
      rw [nI_clamp (n := o) (by omega), hm]
      exact br_t (nI_le (by omega) (by omega)) (h0 fun ⟨i', a, b⟩ => hn i' (by omega) b)
    | succ d ih =>
      intro i hi hn
      refine ⟨vp_in_nI ho (by omega), ?_⟩
      rw [nI_clamp (n := o) (by omega), hm]
      refine br_f (nI_ge (by omega) (by omega)) ⟨oc_v8 ho (by omega), ?_⟩
      rw [oc_k8 ho (by omega)]
      by_cases z : ml (o * 8 + i) = nI l
      · exact br_t z (h1 ⟨i, by omega, z⟩)
      · refine br_f z (nm_r (nI_1 i) (ih (i + 1) (by omega) fun i' a => ?_))
        by_cases y : i' = i
        · rw [y]; exact z
        · exact hn i' (by omega)
  exact ⟨m + 1, key m 0 (by omega) fun i' a => absurd a (Nat.not_lt_zero _)⟩
theorem oc_kd {nc tc : Nat} {kd par num ann rcv bod mc ml mb : Nat → Int32} (N : oc_Nd nc tc kd par num ann rcv bod mc ml mb) {n : Nat} (hn : n < nc) : kd n = 0 ∨ kd n = 1 ∨ kd n = 2 ∨ kd n = 3 := by
  obtain ⟨-, ⟨k, -⟩ | ⟨k, -⟩ | ⟨k, -⟩ | ⟨k, -⟩⟩ := N n hn
  · exact Or.inl k
  · exact Or.inr (Or.inl k)
  · exact Or.inr (Or.inr (Or.inl k))
  · exact Or.inr (Or.inr (Or.inr k))
