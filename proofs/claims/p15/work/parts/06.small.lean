theorem oc_10 : ¬ (1 : Int32) = 0 := by decide
theorem oc_xT1 {NC TC tc nc us ob : Nat} {fail res fl fc val : Int32} {tm mk kd par num ann rcv bod mc ml mb cd cb ce org co cr fn fe fp : Nat → Int32} {A B : Prop} {j : Nat} (hj : j < tc) (ht : tc ≤ 32) (hB : B) : wpX_isType (fun r => (r = 0 → A) ∧ (¬ r = 0 → B)) (nI NC, nI TC, nI tc, nI nc, fail, res, fl, nI us, nI ob, fc, val, tm, mk, kd, par, num, ann, rcv, bod, mc, ml, mb, cd, cb, ce, org, co, cr, fn, fe, fp) (nI j) :=
  br_f (nI_pos (by omega)) (br_f (nI_ge hj (by omega)) (br_f oc_10 hB))
theorem oc_xT0 {NC TC tc nc us ob : Nat} {fail res fl fc val : Int32} {tm mk kd par num ann rcv bod mc ml mb cd cb ce org co cr fn fe fp : Nat → Int32} {A B : Prop} {t : Int32} (hj : t < 0 ∨ nI tc ≤ t) (hA : A) : wpX_isType (fun r => (r = 0 → A) ∧ (¬ r = 0 → B)) (nI NC, nI TC, nI tc, nI nc, fail, res, fl, nI us, nI ob, fc, val, tm, mk, kd, par, num, ann, rcv, bod, mc, ml, mb, cd, cb, ce, org, co, cr, fn, fe, fp) t :=
  br_c (fun _ => br_t rfl hA) (fun h => br_t (hj.resolve_left h) (br_t rfl hA))
theorem oc_xN1 {NC TC tc nc us ob : Nat} {fail res fl fc val : Int32} {tm mk kd par num ann rcv bod mc ml mb cd cb ce org co cr fn fe fp : Nat → Int32} {A B : Prop} {j : Nat} (hj : j < nc) (ht : nc ≤ 32) (hB : B) : wpX_isNode (fun r => (r = 0 → A) ∧ (¬ r = 0 → B)) (nI NC, nI TC, nI tc, nI nc, fail, res, fl, nI us, nI ob, fc, val, tm, mk, kd, par, num, ann, rcv, bod, mc, ml, mb, cd, cb, ce, org, co, cr, fn, fe, fp) (nI j) :=
  br_f (nI_pos (by omega)) (br_f (nI_ge hj (by omega)) (br_f oc_10 hB))
theorem oc_xN0 {NC TC tc nc us ob : Nat} {fail res fl fc val : Int32} {tm mk kd par num ann rcv bod mc ml mb cd cb ce org co cr fn fe fp : Nat → Int32} {A B : Prop} {t : Int32} (hj : t < 0 ∨ nI nc ≤ t) (hA : A) : wpX_isNode (fun r => (r = 0 → A) ∧ (¬ r = 0 → B)) (nI NC, nI TC, nI tc, nI nc, fail, res, fl, nI us, nI ob, fc, val, tm, mk, kd, par, num, ann, rcv, bod, mc, ml, mb, cd, cb, ce, org, co, cr, fn, fe, fp) t :=
  br_c (fun _ => br_t rfl hA) (fun h => br_t (hj.resolve_left h) (br_t rfl hA))
theorem oc_15 {l : Nat} (h : l < 16) : ¬ (15 : Int32) < nI l := nI_nlt (a := 15) (by omega) (by omega)
theorem oc_15' {t : Int32} (h : nI 16 ≤ t) : (15 : Int32) < t := by
  rw [Int32.lt_iff_toInt_lt]
  rw [Int32.le_iff_toInt_le, nI_toInt (by omega)] at h
  have : (15 : Int32).toInt = 15 := by decide
  omega
theorem oc_15l {l : Nat} (h : l < 16) : nI l ≤ (15 : Int32) := nI_le (b := 15) (by omega) (by omega)
theorem oc_15n {t : Int32} (h : nI 16 ≤ t) : ¬ t ≤ (15 : Int32) := fun q => absurd (oc_15' h) (Int32.not_lt.mpr q)
theorem oc_xL1 {A B : Prop} {l : Nat} (h : l < 16) (hB : B) : wpX_isLabel (fun r => (r = 0 → A) ∧ (¬ r = 0 → B)) () (nI l) :=
  br_f (nI_pos (by omega)) (br_f (oc_15 h) (br_f oc_10 hB))
theorem oc_xL0 {A B : Prop} {t : Int32} (h : t < 0 ∨ nI 16 ≤ t) (hA : A) : wpX_isLabel (fun r => (r = 0 → A) ∧ (¬ r = 0 → B)) () t :=
  br_c (fun _ => br_t rfl hA) (fun z => br_t (oc_15' (h.resolve_left z)) (br_t rfl hA))
theorem oc_la1 {A A' B : Prop} {l : Nat} (h : l < 16) (hB : B) : (nI l < 0 → A) ∧ (¬ nI l < 0 → ((15 < nI l → A') ∧ (¬ 15 < nI l → B))) :=
  br_f (nI_pos (by omega)) (br_f (oc_15 h) hB)
theorem oc_la0 {A B : Prop} {t : Int32} (h : t < 0 ∨ nI 16 ≤ t) (hA : A) : (t < 0 → A) ∧ (¬ t < 0 → ((15 < t → A) ∧ (¬ 15 < t → B))) :=
  br_c (fun _ => hA) (fun z => br_t (oc_15' (h.resolve_left z)) hA)
theorem oc_ix (x : Int32) {n : Nat} (hn : n ≤ 512) : (x < 0 ∨ nI n ≤ x) ∨ ∃ j : Nat, j < n ∧ x = nI j := by
  rcases pk_ix x (n := n) (by omega) with h | h | h
  · exact Or.inl (Or.inl h)
  · exact Or.inl (Or.inr h)
  · exact Or.inr h
/-- the cell of a type or an object and a label -/
theorem oc_i16 (a b : Nat) : nI a * 16 + nI b = nI (a * 16 + b) := by
  rw [show (16 : Int32) = nI 16 from rfl, pk_mul, nI_add]
theorem oc_i8 (a b : Nat) : nI a * 8 + nI b = nI (a * 8 + b) := by
  rw [show (8 : Int32) = nI 8 from rfl, pk_mul, nI_add]
theorem oc_v16 {a b : Nat} (ha : a < 32) (hb : b < 16) : vp_in (nI a * 16 + nI b) 512 := by
  rw [oc_i16]; exact vp_in_nI (by omega) (by omega)
theorem oc_k16 {a b : Nat} (ha : a < 32) (hb : b < 16) : (nI a * 16 + nI b).toNatClampNeg = a * 16 + b := by
  rw [oc_i16]; exact nI_clamp (by omega)
theorem oc_v8 {a b : Nat} (ha : a < 32) (hb : b < 8) : vp_in (nI a * 8 + nI b) 256 := by
  rw [oc_i8]; exact vp_in_nI (by omega) (by omega)
theorem oc_k8 {a b : Nat} (ha : a < 32) (hb : b < 8) : (nI a * 8 + nI b).toNatClampNeg = a * 8 + b := by
  rw [oc_i8]; exact nI_clamp (by omega)
