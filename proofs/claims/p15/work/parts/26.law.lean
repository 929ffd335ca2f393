/-! the law, from its innermost loops outward -/
theorem oc_rc {post : Int32 → Prop} {p0 p1 p2 : Int32} (h2 : ¬ p2 = 0) (h : ∀ r, post r) : wpL_recent post () p0 p1 p2 :=
  br_c (fun _ => ⟨h2, nm_e (br_c (fun _ => h _) (fun _ => h _))⟩) (fun _ => h _)
theorem oc_nz {post : Int32 → Prop} {p : Int32} (h : ∀ r, post r) : wpL_nz post () p := br_c (fun _ => h _) (fun _ => h _)
theorem oc_ce {post : Int32 → Prop} {L k : Nat} {xs : Nat → Int32} (hL : L ≤ 260) (hk : k < 2 ^ 20) (h : ∀ r, post r) : wpL_cell post L xs () (nI k) :=
  pk_le L k (fun _ => h _) (fun q => ⟨vp_in_nI q (by omega), h _⟩)
theorem oc_742 {NC TC tc nc us ob : Nat} {fail fl fc val : Int32} {tm mk kd par num ann rcv bod mc ml mb cd cb ce org co cr fn fe fp : Nat → Int32} {post : Int32 → Prop} {L : Nat} {xs : Nat → Int32} {J27 : Int32 → Int32 → Int32 → Int32 → Int32 → Int32 → Int32 → Int32 → Int32 → Int32 → Int32 → Int32 → Int32 → Int32 → (Nat → Int32) → (Nat → Int32) → (Nat → Int32) → (Nat → Int32) → (Nat → Int32) → (Nat → Int32) → (Nat → Int32) → (Nat → Int32) → (Nat → Int32) → (Nat → Int32) → (Nat → Int32) → (Nat → Int32) → (Nat → Int32) → (Nat → Int32) → (Nat → Int32) → (Nat → Int32) → (Nat → Int32) → (Nat → Int32) → (Nat → Int32) → (Nat → Int32) → Prop} {x2 x3 x4 x5 : Int32} {kc ks t o : Nat} (hI : oc_I NC TC tc nc us ob (nI o) tm mk kd par num ann rcv bod mc ml mb)
    (ht : t < tc) (ho : o < ob) (hb : ∀ l, l < 16 → ¬ tm (t * 16 + l) = -1 → ∃ b, b < 32 ∧ cb (o * 16 + l) = nI b) (h : J27 x2 x3 (x5 + 1) (nI NC) (nI TC) (nI tc) (nI nc) fail (nI o) fl (nI us) (nI ob) fc val tm mk kd par num ann rcv bod mc ml mb cd cb ce org co cr fn fe fp) :
    ∀ d l, l + d = 16 → wL_law_742 post L xs J27 x2 x3 x4 x5 (nI t) kc ks (nI NC) (nI TC) (nI tc) (nI nc) fail (nI o) fl (nI us) (nI ob) fc val tm mk kd par num ann rcv bod mc ml mb cd cb ce org co cr fn fe fp (d + 1) (nI l) := by
  obtain ⟨h1, h2, h3, h4, h5, h6, h7, hN, hT, -⟩ := hI
  intro d
  induction d with
  | zero =>
    intro l hl
    exact br_t (nI_le (a := 16) (by omega) (by omega)) (nm_e h)
  | succ d ih =>
    intro l hl
    have hl16 : l < 16 := by omega
    refine br_f (nI_ge (b := 16) (by omega) (by omega)) ?_
    unfold wpX_typeMember
    refine oc_xT1 ht (by omega) (oc_xL1 hl16 ⟨oc_v16 (by omega) hl16, ?_⟩)
    rw [oc_k16 (by omega) hl16]
    rcases (hT.2 t ht).2 l hl16 with y | ⟨m', y1, y2⟩
    · rw [y]
      exact br_t (by decide) (nm_r (nI_1 l) (ih (l + 1) (by omega)))
    · obtain ⟨b, b1, b2⟩ := hb l hl16 (by rw [y2]; exact oc_m1 (by omega))
      rw [y2]
      refine br_f (nI_pos (by omega)) ?_
      unfold wpX_resultBody
      refine br_f (oc_m1 (by omega)) (oc_xL1 hl16 ⟨oc_v16 (by omega) hl16, ?_⟩)
      rw [oc_k16 (by omega) hl16, b2]
      exact br_t (nI_pos' (by omega)) (nm_r (nI_1 l) (ih (l + 1) (by omega)))
theorem oc_676 {NC TC tc nc us ob : Nat} {fail res fl fc val : Int32} {tm mk kd par num ann rcv bod mc ml mb cd cb ce org co cr fn fe fp : Nat → Int32} {post : Int32 → Prop} {L : Nat} {xs : Nat → Int32} {J27 : Int32 → Int32 → Int32 → Int32 → Int32 → Int32 → Int32 → Int32 → Int32 → Int32 → Int32 → Int32 → Int32 → Int32 → (Nat → Int32) → (Nat → Int32) → (Nat → Int32) → (Nat → Int32) → (Nat → Int32) → (Nat → Int32) → (Nat → Int32) → (Nat → Int32) → (Nat → Int32) → (Nat → Int32) → (Nat → Int32) → (Nat → Int32) → (Nat → Int32) → (Nat → Int32) → (Nat → Int32) → (Nat → Int32) → (Nat → Int32) → (Nat → Int32) → (Nat → Int32) → (Nat → Int32) → Prop} {x2 x3 x4 x5 x11 x12 : Int32} {kc ks : Nat} (hI : oc_I NC TC tc nc us ob res tm mk kd par num ann rcv bod mc ml mb)
    (HJ : ∀ (x2 x3 : Int32) {NC TC tc nc us ob : Nat} {fail res fl fc val : Int32} {tm mk kd par num ann rcv bod mc ml mb cd cb ce org co cr fn fe fp : Nat → Int32}, oc_I NC TC tc nc us ob res tm mk kd par num ann rcv bod mc ml mb → J27 x2 x3 (x5 + 1) (nI NC) (nI TC) (nI tc) (nI nc) fail res fl (nI us) (nI ob) fc val tm mk kd par num ann rcv bod mc ml mb cd cb ce org co cr fn fe fp) : wL_law_676 post L xs J27 x2 x3 x4 x5 x11 x12 kc ks (nI NC) (nI TC) (nI tc) (nI nc) fail res fl (nI us) (nI ob) fc val tm mk kd par num ann rcv bod mc ml mb cd cb ce org co cr fn fe fp := by
  unfold wL_law_676
  refine br_c (fun _ => nm_e (HJ _ _ hI)) (fun _ => oc_jc (oc_jm hI) (fun T u' J' K => ?_))
  obtain ⟨NC, TC, tc, nc, us, ob, fail, res, fl, fc, val, tm, mk, kd, par, num, ann, rcv, bod, mc, ml, mb, cd, cb, ce, org, co, cr, fn, fe, fp, rfl, hI'⟩ := J'
  refine oc_jr (oc_jm hI') K (fun rr u'' J'' R => ?_) x12
  rcases R with hT | ⟨NC, TC, tc, nc, us, ob, fail, res, fl, fc, val, tm, mk, kd, par, num, ann, rcv, bod, mc, ml, mb, cd, cb, ce, org, co, cr, fn, fe, fp, t, rfl, hI'', ht, rfl, R⟩
  · obtain ⟨NC, TC, tc, nc, us, ob, fail, res, fl, fc, val, tm, mk, kd, par, num, ann, rcv, bod, mc, ml, mb, cd, cb, ce, org, co, cr, fn, fe, fp, rfl, hI''⟩ := J''
    exact br_t hT (nm_e (HJ _ _ hI''))
  · have t32 : t < 32 := by have := hI''.2.1; have := hI''.2.2.2.1; omega
    refine br_f (nI_pos (by omega)) ?_
    rcases R with ⟨rfl, o, o1, rfl, o3⟩ | rfl | rfl | rfl
    · refine br_t rfl (br_t rfl (pk_eq t 0 (fun _ => nm_e (HJ _ _ hI'')) (fun t0 => ⟨17, ?_⟩)))
      exact oc_742 hI'' ht o1 (o3 t0) (HJ _ _ hI'') 16 0 rfl
    · exact br_f (by decide) (br_t rfl (br_f (by decide) (nm_e (HJ _ _ hI''))))
    · exact br_f (by decide) (br_f (by decide) (br_t rfl (br_f (by decide) (nm_e (HJ _ _ hI'')))))
    · exact br_f (by decide) (br_f (by decide) (br_f (by decide) (br_t rfl (br_f (by decide) (nm_e (HJ _ _ hI''))))))
theorem oc_623 {NC TC tc nc us ob : Nat} {fail res fl fc val : Int32} {tm mk kd par num ann rcv bod mc ml mb cd cb ce org co cr fn fe fp : Nat → Int32} {post : Int32 → Prop} {L : Nat} {xs : Nat → Int32} {J27 : Int32 → Int32 → Int32 → Int32 → Int32 → Int32 → Int32 → Int32 → Int32 → Int32 → Int32 → Int32 → Int32 → Int32 → (Nat → Int32) → (Nat → Int32) → (Nat → Int32) → (Nat → Int32) → (Nat → Int32) → (Nat → Int32) → (Nat → Int32) → (Nat → Int32) → (Nat → Int32) → (Nat → Int32) → (Nat → Int32) → (Nat → Int32) → (Nat → Int32) → (Nat → Int32) → (Nat → Int32) → (Nat → Int32) → (Nat → Int32) → (Nat → Int32) → (Nat → Int32) → (Nat → Int32) → Prop} {x2 x3 x4 x5 x8 x10 : Int32} {kc ks : Nat} (hI : oc_I NC TC tc nc us ob res tm mk kd par num ann rcv bod mc ml mb)
    (HJ : ∀ (x2 x3 : Int32) {NC TC tc nc us ob : Nat} {fail res fl fc val : Int32} {tm mk kd par num ann rcv bod mc ml mb cd cb ce org co cr fn fe fp : Nat → Int32}, oc_I NC TC tc nc us ob res tm mk kd par num ann rcv bod mc ml mb → J27 x2 x3 (x5 + 1) (nI NC) (nI TC) (nI tc) (nI nc) fail res fl (nI us) (nI ob) fc val tm mk kd par num ann rcv bod mc ml mb cd cb ce org co cr fn fe fp) : wL_law_623 post L xs J27 x2 x3 x4 x5 x8 x10 kc ks (nI NC) (nI TC) (nI tc) (nI nc) fail res fl (nI us) (nI ob) fc val tm mk kd par num ann rcv bod mc ml mb cd cb ce org co cr fn fe fp := by
  unfold wL_law_623
  refine ⟨by decide, oc_rc (by decide) (fun r => ⟨by decide, by decide, br_c (fun _ => ?_) (fun _ => ⟨by decide, by decide, ?_⟩)⟩)⟩
  · exact oc_676 hI HJ
  · exact oc_676 hI HJ
theorem oc_414 {NC TC tc nc us ob : Nat} {fail res fl fc val : Int32} {tm mk kd par num ann rcv bod mc ml mb cd cb ce org co cr fn fe fp : Nat → Int32} {post : Int32 → Prop} {L : Nat} {xs : Nat → Int32} {J27 : Int32 → Int32 → Int32 → Int32 → Int32 → Int32 → Int32 → Int32 → Int32 → Int32 → Int32 → Int32 → Int32 → Int32 → (Nat → Int32) → (Nat → Int32) → (Nat → Int32) → (Nat → Int32) → (Nat → Int32) → (Nat → Int32) → (Nat → Int32) → (Nat → Int32) → (Nat → Int32) → (Nat → Int32) → (Nat → Int32) → (Nat → Int32) → (Nat → Int32) → (Nat → Int32) → (Nat → Int32) → (Nat → Int32) → (Nat → Int32) → (Nat → Int32) → (Nat → Int32) → (Nat → Int32) → Prop} {J270 : Int32 → Int32 → Int32 → Int32 → Int32 → Int32 → Int32 → Int32 → Int32 → Int32 → Int32 → Int32 → (Nat → Int32) → (Nat → Int32) → (Nat → Int32) → (Nat → Int32) → (Nat → Int32) → (Nat → Int32) → (Nat → Int32) → (Nat → Int32) → (Nat → Int32) → (Nat → Int32) → (Nat → Int32) → (Nat → Int32) → (Nat → Int32) → (Nat → Int32) → (Nat → Int32) → (Nat → Int32) → (Nat → Int32) → (Nat → Int32) → (Nat → Int32) → (Nat → Int32) → Prop} {x2 x3 x4 x5 x8 x9 x10 x14 x15 x16 x17 x19 : Int32} {kc ks : Nat} (hI : oc_I NC TC tc nc us ob res tm mk kd par num ann rcv bod mc ml mb)
    (HK : ∀ {NC TC tc nc us ob : Nat} {fail res fl fc val : Int32} {tm mk kd par num ann rcv bod mc ml mb cd cb ce org co cr fn fe fp : Nat → Int32}, oc_I NC TC tc nc us ob res tm mk kd par num ann rcv bod mc ml mb → J270 (x17 + 1) (nI NC) (nI TC) (nI tc) (nI nc) fail res fl (nI us) (nI ob) fc val tm mk kd par num ann rcv bod mc ml mb cd cb ce org co cr fn fe fp) : wL_law_414 post L xs J27 J270 x2 x3 x4 x5 x8 x9 x10 x14 x15 x16 x17 x19 kc ks (nI NC) (nI TC) (nI tc) (nI nc) fail res fl (nI us) (nI ob) fc val tm mk kd par num ann rcv bod mc ml mb cd cb ce org co cr fn fe fp := by
  unfold wL_law_414
  refine br_c (fun _ => nm_e (HK hI)) (fun _ => oc_ja (oc_jm hI) (fun rr u' J' => ?_) _ _ _)
  obtain ⟨NC, TC, tc, nc, us, ob, fail, res, fl, fc, val, tm, mk, kd, par, num, ann, rcv, bod, mc, ml, mb, cd, cb, ce, org, co, cr, fn, fe, fp, rfl, hI'⟩ := J'
  exact nm_e (HK hI')
theorem oc_341 {post : Int32 → Prop} {L : Nat} {xs : Nat → Int32} {J27 : Int32 → Int32 → Int32 → Int32 → Int32 → Int32 → Int32 → Int32 → Int32 → Int32 → Int32 → Int32 → Int32 → Int32 → (Nat → Int32) → (Nat → Int32) → (Nat → Int32) → (Nat → Int32) → (Nat → Int32) → (Nat → Int32) → (Nat → Int32) → (Nat → Int32) → (Nat → Int32) → (Nat → Int32) → (Nat → Int32) → (Nat → Int32) → (Nat → Int32) → (Nat → Int32) → (Nat → Int32) → (Nat → Int32) → (Nat → Int32) → (Nat → Int32) → (Nat → Int32) → (Nat → Int32) → Prop} {J270 : Int32 → Int32 → Int32 → Int32 → Int32 → Int32 → Int32 → Int32 → Int32 → Int32 → Int32 → Int32 → (Nat → Int32) → (Nat → Int32) → (Nat → Int32) → (Nat → Int32) → (Nat → Int32) → (Nat → Int32) → (Nat → Int32) → (Nat → Int32) → (Nat → Int32) → (Nat → Int32) → (Nat → Int32) → (Nat → Int32) → (Nat → Int32) → (Nat → Int32) → (Nat → Int32) → (Nat → Int32) → (Nat → Int32) → (Nat → Int32) → (Nat → Int32) → (Nat → Int32) → Prop} {x2 x3 x4 x5 x8 x9 x10 x14 x15 x16 x17 x18 : Int32} {kc ks : Nat}
    (HK : ∀ {NC TC tc nc us ob : Nat} {fail res fl fc val : Int32} {tm mk kd par num ann rcv bod mc ml mb cd cb ce org co cr fn fe fp : Nat → Int32}, oc_I NC TC tc nc us ob res tm mk kd par num ann rcv bod mc ml mb → J270 (x17 + 1) (nI NC) (nI TC) (nI tc) (nI nc) fail res fl (nI us) (nI ob) fc val tm mk kd par num ann rcv bod mc ml mb cd cb ce org co cr fn fe fp) : ∀ d j, j + d = 9 → ∀ (x19 : Int32) {NC TC tc nc us ob : Nat} {fail res fl fc val : Int32} {tm mk kd par num ann rcv bod mc ml mb cd cb ce org co cr fn fe fp : Nat → Int32}, oc_I NC TC tc nc us ob res tm mk kd par num ann rcv bod mc ml mb →
      wL_law_341 post L xs J27 J270 x2 x3 x4 x5 x8 x9 x10 x14 x15 x16 x17 x18 kc ks (d + 1) x19 (nI j) (nI NC) (nI TC) (nI tc) (nI nc) fail res fl (nI us) (nI ob) fc val tm mk kd par num ann rcv bod mc ml mb cd cb ce org co cr fn fe fp := by
  intro d
  induction d with
  | zero =>
    intro j hj x19 NC TC tc nc us ob fail res fl fc val tm mk kd par num ann rcv bod mc ml mb cd cb ce org co cr fn fe fp hI
    exact br_t (nI_lt (a := 8) (b := j) (by omega) (by omega)) (oc_414 hI HK)
  | succ d ih =>
    intro j hj x19 NC TC tc nc us ob fail res fl fc val tm mk kd par num ann rcv bod mc ml mb cd cb ce org co cr fn fe fp hI
    refine br_f (nI_nlt (b := j) (a := 8) (by omega) (by omega)) (br_c (fun _ => oc_414 hI HK) (fun _ => nm_e (br_c (fun _ => oc_jn (oc_jm hI) (fun rp => br_c (fun _ => oc_jc (oc_jm hI) (fun T u' J' _ => ?_)) (fun _ => nm_r (nI_1 j) (ih (j + 1) (by omega) x19 hI))) _) (fun _ => oc_414 hI HK))))
    obtain ⟨NC, TC, tc, nc, us, ob, fail, res, fl, fc, val, tm, mk, kd, par, num, ann, rcv, bod, mc, ml, mb, cd, cb, ce, org, co, cr, fn, fe, fp, rfl, hI'⟩ := J'
    exact br_c (fun _ => nm_r (nI_1 j) (ih (j + 1) (by omega) x19 hI')) (fun _ => oc_jb (oc_jm hI') (fun rb => br_c (fun _ => nm_r (nI_1 j) (ih (j + 1) (by omega) x19 hI')) (fun _ => nm_r (nI_1 j) (ih (j + 1) (by omega) _ hI'))) _ _)
theorem oc_270 {post : Int32 → Prop} {L : Nat} {xs : Nat → Int32} {J27 : Int32 → Int32 → Int32 → Int32 → Int32 → Int32 → Int32 → Int32 → Int32 → Int32 → Int32 → Int32 → Int32 → Int32 → (Nat → Int32) → (Nat → Int32) → (Nat → Int32) → (Nat → Int32) → (Nat → Int32) → (Nat → Int32) → (Nat → Int32) → (Nat → Int32) → (Nat → Int32) → (Nat → Int32) → (Nat → Int32) → (Nat → Int32) → (Nat → Int32) → (Nat → Int32) → (Nat → Int32) → (Nat → Int32) → (Nat → Int32) → (Nat → Int32) → (Nat → Int32) → (Nat → Int32) → Prop} {x2 x3 x4 x5 x8 x9 x10 x14 x15 x16 : Int32} {kc ks : Nat}
    (HJ : ∀ (x2 x3 : Int32) {NC TC tc nc us ob : Nat} {fail res fl fc val : Int32} {tm mk kd par num ann rcv bod mc ml mb cd cb ce org co cr fn fe fp : Nat → Int32}, oc_I NC TC tc nc us ob res tm mk kd par num ann rcv bod mc ml mb → J27 x2 x3 (x5 + 1) (nI NC) (nI TC) (nI tc) (nI nc) fail res fl (nI us) (nI ob) fc val tm mk kd par num ann rcv bod mc ml mb cd cb ce org co cr fn fe fp) : ∀ d l, l + d = 16 → ∀ {NC TC tc nc us ob : Nat} {fail res fl fc val : Int32} {tm mk kd par num ann rcv bod mc ml mb cd cb ce org co cr fn fe fp : Nat → Int32}, oc_I NC TC tc nc us ob res tm mk kd par num ann rcv bod mc ml mb →
      wL_law_270 post L xs J27 x2 x3 x4 x5 x8 x9 x10 x14 x15 x16 kc ks (d + 1) (nI l) (nI NC) (nI TC) (nI tc) (nI nc) fail res fl (nI us) (nI ob) fc val tm mk kd par num ann rcv bod mc ml mb cd cb ce org co cr fn fe fp := by
  intro d
  induction d with
  | zero =>
    intro l hl NC TC tc nc us ob fail res fl fc val tm mk kd par num ann rcv bod mc ml mb cd cb ce org co cr fn fe fp hI
    exact br_t (nI_le (a := 16) (by omega) (by omega)) (oc_623 hI HJ)
  | succ d ih =>
    intro l hl NC TC tc nc us ob fail res fl fc val tm mk kd par num ann rcv bod mc ml mb cd cb ce org co cr fn fe fp hI
    have HK : ∀ {NC TC tc nc us ob : Nat} {fail res fl fc val : Int32} {tm mk kd par num ann rcv bod mc ml mb cd cb ce org co cr fn fe fp : Nat → Int32}, oc_I NC TC tc nc us ob res tm mk kd par num ann rcv bod mc ml mb → wL_law_270 post L xs J27 x2 x3 x4 x5 x8 x9 x10 x14 x15 x16 kc ks (d + 1) (nI l + 1) (nI NC) (nI TC) (nI tc) (nI nc) fail res fl (nI us) (nI ob) fc val tm mk kd par num ann rcv bod mc ml mb cd cb ce org co cr fn fe fp := fun hI' => by
      rw [nI_1]; exact ih (l + 1) (by omega) hI'
    refine br_f (nI_ge (b := 16) (by omega) (by omega)) (oc_jt (oc_jm hI) (fun r => br_c (fun _ => br_c (fun _ => ⟨9, oc_341 HK 8 1 (by omega) _ hI⟩) (fun _ => br_c (fun _ => oc_jn (oc_jm hI) (fun rp => br_c (fun _ => ⟨9, oc_341 HK 8 1 (by omega) _ hI⟩) (fun _ => oc_jb (oc_jm hI) (fun rb => br_c (fun _ => ⟨9, oc_341 HK 8 1 (by omega) _ hI⟩) (fun _ => ⟨9, oc_341 HK 8 1 (by omega) _ hI⟩)) _ _)) _) (fun _ => ⟨9, oc_341 HK 8 1 (by omega) _ hI⟩))) (fun _ => nm_r (nI_1 l) (ih (l + 1) (by omega) hI))) _ _)
theorem oc_249 {NC TC tc nc us ob : Nat} {fail res fl fc val : Int32} {tm mk kd par num ann rcv bod mc ml mb cd cb ce org co cr fn fe fp : Nat → Int32} {post : Int32 → Prop} {L : Nat} {xs : Nat → Int32} {J27 : Int32 → Int32 → Int32 → Int32 → Int32 → Int32 → Int32 → Int32 → Int32 → Int32 → Int32 → Int32 → Int32 → Int32 → (Nat → Int32) → (Nat → Int32) → (Nat → Int32) → (Nat → Int32) → (Nat → Int32) → (Nat → Int32) → (Nat → Int32) → (Nat → Int32) → (Nat → Int32) → (Nat → Int32) → (Nat → Int32) → (Nat → Int32) → (Nat → Int32) → (Nat → Int32) → (Nat → Int32) → (Nat → Int32) → (Nat → Int32) → (Nat → Int32) → (Nat → Int32) → (Nat → Int32) → Prop} {x2 x3 x4 x5 x8 x9 x10 x14 x15 : Int32} {kc ks : Nat} (hI : oc_I NC TC tc nc us ob res tm mk kd par num ann rcv bod mc ml mb)
    (HJ : ∀ (x2 x3 : Int32) {NC TC tc nc us ob : Nat} {fail res fl fc val : Int32} {tm mk kd par num ann rcv bod mc ml mb cd cb ce org co cr fn fe fp : Nat → Int32}, oc_I NC TC tc nc us ob res tm mk kd par num ann rcv bod mc ml mb → J27 x2 x3 (x5 + 1) (nI NC) (nI TC) (nI tc) (nI nc) fail res fl (nI us) (nI ob) fc val tm mk kd par num ann rcv bod mc ml mb cd cb ce org co cr fn fe fp) : wL_law_249 post L xs J27 x2 x3 x4 x5 x8 x9 x10 x14 x15 kc ks (nI NC) (nI TC) (nI tc) (nI nc) fail res fl (nI us) (nI ob) fc val tm mk kd par num ann rcv bod mc ml mb cd cb ce org co cr fn fe fp := by
  unfold wL_law_249
  refine oc_jo (oc_jm hI) (fun rr u' J' => ?_) _
  obtain ⟨NC, TC, tc, nc, us, ob, fail, res, fl, fc, val, tm, mk, kd, par, num, ann, rcv, bod, mc, ml, mb, cd, cb, ce, org, co, cr, fn, fe, fp, rfl, hI'⟩ := J'
  exact br_c (fun _ => oc_623 hI' HJ) (fun _ => nm_e ⟨17, oc_270 HJ 16 0 rfl hI'⟩)
theorem oc_223 {NC TC tc nc us ob : Nat} {fail res fl fc val : Int32} {tm mk kd par num ann rcv bod mc ml mb cd cb ce org co cr fn fe fp : Nat → Int32} {post : Int32 → Prop} {L : Nat} {xs : Nat → Int32} {J27 : Int32 → Int32 → Int32 → Int32 → Int32 → Int32 → Int32 → Int32 → Int32 → Int32 → Int32 → Int32 → Int32 → Int32 → (Nat → Int32) → (Nat → Int32) → (Nat → Int32) → (Nat → Int32) → (Nat → Int32) → (Nat → Int32) → (Nat → Int32) → (Nat → Int32) → (Nat → Int32) → (Nat → Int32) → (Nat → Int32) → (Nat → Int32) → (Nat → Int32) → (Nat → Int32) → (Nat → Int32) → (Nat → Int32) → (Nat → Int32) → (Nat → Int32) → (Nat → Int32) → (Nat → Int32) → Prop} {x2 x3 x4 x5 x8 x9 x10 : Int32} {kc ks : Nat} (hI : oc_I NC TC tc nc us ob res tm mk kd par num ann rcv bod mc ml mb)
    (HJ : ∀ (x2 x3 : Int32) {NC TC tc nc us ob : Nat} {fail res fl fc val : Int32} {tm mk kd par num ann rcv bod mc ml mb cd cb ce org co cr fn fe fp : Nat → Int32}, oc_I NC TC tc nc us ob res tm mk kd par num ann rcv bod mc ml mb → J27 x2 x3 (x5 + 1) (nI NC) (nI TC) (nI tc) (nI nc) fail res fl (nI us) (nI ob) fc val tm mk kd par num ann rcv bod mc ml mb cd cb ce org co cr fn fe fp) : wL_law_223 post L xs J27 x2 x3 x4 x5 x8 x9 x10 kc ks (nI NC) (nI TC) (nI tc) (nI nc) fail res fl (nI us) (nI ob) fc val tm mk kd par num ann rcv bod mc ml mb cd cb ce org co cr fn fe fp := by
  unfold wL_law_223
  refine oc_rc (by decide) (fun r => oc_jv (oc_jm hI) (fun rr u' J' => ?_) _)
  obtain ⟨NC, TC, tc, nc, us, ob, fail, res, fl, fc, val, tm, mk, kd, par, num, ann, rcv, bod, mc, ml, mb, cd, cb, ce, org, co, cr, fn, fe, fp, rfl, hI'⟩ := J'
  exact br_c (fun _ => oc_249 hI' HJ) (fun _ => nm_e (oc_249 hI' HJ))
theorem oc_597 {NC TC tc nc us ob : Nat} {fail res fl fc val : Int32} {tm mk kd par num ann rcv bod mc ml mb cd cb ce org co cr fn fe fp : Nat → Int32} {post : Int32 → Prop} {L : Nat} {xs : Nat → Int32} {J27 : Int32 → Int32 → Int32 → Int32 → Int32 → Int32 → Int32 → Int32 → Int32 → Int32 → Int32 → Int32 → Int32 → Int32 → (Nat → Int32) → (Nat → Int32) → (Nat → Int32) → (Nat → Int32) → (Nat → Int32) → (Nat → Int32) → (Nat → Int32) → (Nat → Int32) → (Nat → Int32) → (Nat → Int32) → (Nat → Int32) → (Nat → Int32) → (Nat → Int32) → (Nat → Int32) → (Nat → Int32) → (Nat → Int32) → (Nat → Int32) → (Nat → Int32) → (Nat → Int32) → (Nat → Int32) → Prop} {x2 x3 x4 x5 x8 x9 x10 x14 x15 x16 : Int32} {kc ks : Nat} (hI : oc_I NC TC tc nc us ob res tm mk kd par num ann rcv bod mc ml mb)
    (HJ : ∀ (x2 x3 : Int32) {NC TC tc nc us ob : Nat} {fail res fl fc val : Int32} {tm mk kd par num ann rcv bod mc ml mb cd cb ce org co cr fn fe fp : Nat → Int32}, oc_I NC TC tc nc us ob res tm mk kd par num ann rcv bod mc ml mb → J27 x2 x3 (x5 + 1) (nI NC) (nI TC) (nI tc) (nI nc) fail res fl (nI us) (nI ob) fc val tm mk kd par num ann rcv bod mc ml mb cd cb ce org co cr fn fe fp) : wL_law_597 post L xs J27 x2 x3 x4 x5 x8 x9 x10 x14 x15 x16 kc ks (nI NC) (nI TC) (nI tc) (nI nc) fail res fl (nI us) (nI ob) fc val tm mk kd par num ann rcv bod mc ml mb cd cb ce org co cr fn fe fp := by
  unfold wL_law_597
  refine ⟨by decide, oc_ju (oc_jm hI) (fun rr u' J' => ?_) _ _ _ _⟩
  obtain ⟨NC, TC, tc, nc, us, ob, fail, res, fl, fc, val, tm, mk, kd, par, num, ann, rcv, bod, mc, ml, mb, cd, cb, ce, org, co, cr, fn, fe, fp, rfl, hI'⟩ := J'
  exact br_c (fun _ => oc_623 hI' HJ) (fun _ => nm_e (oc_623 hI' HJ))
theorem oc_553 {NC TC tc nc us ob : Nat} {fail res fl fc val : Int32} {tm mk kd par num ann rcv bod mc ml mb cd cb ce org co cr fn fe fp : Nat → Int32} {post : Int32 → Prop} {L : Nat} {xs : Nat → Int32} {J27 : Int32 → Int32 → Int32 → Int32 → Int32 → Int32 → Int32 → Int32 → Int32 → Int32 → Int32 → Int32 → Int32 → Int32 → (Nat → Int32) → (Nat → Int32) → (Nat → Int32) → (Nat → Int32) → (Nat → Int32) → (Nat → Int32) → (Nat → Int32) → (Nat → Int32) → (Nat → Int32) → (Nat → Int32) → (Nat → Int32) → (Nat → Int32) → (Nat → Int32) → (Nat → Int32) → (Nat → Int32) → (Nat → Int32) → (Nat → Int32) → (Nat → Int32) → (Nat → Int32) → (Nat → Int32) → Prop} {x2 x3 x4 x5 x8 x9 x10 x14 x15 : Int32} {kc ks : Nat} (hI : oc_I NC TC tc nc us ob res tm mk kd par num ann rcv bod mc ml mb)
    (HJ : ∀ (x2 x3 : Int32) {NC TC tc nc us ob : Nat} {fail res fl fc val : Int32} {tm mk kd par num ann rcv bod mc ml mb cd cb ce org co cr fn fe fp : Nat → Int32}, oc_I NC TC tc nc us ob res tm mk kd par num ann rcv bod mc ml mb → J27 x2 x3 (x5 + 1) (nI NC) (nI TC) (nI tc) (nI nc) fail res fl (nI us) (nI ob) fc val tm mk kd par num ann rcv bod mc ml mb cd cb ce org co cr fn fe fp) : wL_law_553 post L xs J27 x2 x3 x4 x5 x8 x9 x10 x14 x15 kc ks (nI NC) (nI TC) (nI tc) (nI nc) fail res fl (nI us) (nI ob) fc val tm mk kd par num ann rcv bod mc ml mb cd cb ce org co cr fn fe fp := by
  unfold wL_law_553
  refine ⟨by decide, nm_e (br_c (fun _ => ⟨by decide, oc_rc (by decide) (fun r => oc_597 hI HJ)⟩) (fun _ => oc_jv (oc_jm hI) (fun rr u' J' => ?_) _))⟩
  obtain ⟨NC, TC, tc, nc, us, ob, fail, res, fl, fc, val, tm, mk, kd, par, num, ann, rcv, bod, mc, ml, mb, cd, cb, ce, org, co, cr, fn, fe, fp, rfl, hI'⟩ := J'
  exact br_c (fun _ => oc_597 hI' HJ) (fun _ => nm_e (oc_597 hI' HJ))
theorem oc_541 {NC TC tc nc us ob : Nat} {fail res fl fc val : Int32} {tm mk kd par num ann rcv bod mc ml mb cd cb ce org co cr fn fe fp : Nat → Int32} {post : Int32 → Prop} {L : Nat} {xs : Nat → Int32} {J27 : Int32 → Int32 → Int32 → Int32 → Int32 → Int32 → Int32 → Int32 → Int32 → Int32 → Int32 → Int32 → Int32 → Int32 → (Nat → Int32) → (Nat → Int32) → (Nat → Int32) → (Nat → Int32) → (Nat → Int32) → (Nat → Int32) → (Nat → Int32) → (Nat → Int32) → (Nat → Int32) → (Nat → Int32) → (Nat → Int32) → (Nat → Int32) → (Nat → Int32) → (Nat → Int32) → (Nat → Int32) → (Nat → Int32) → (Nat → Int32) → (Nat → Int32) → (Nat → Int32) → (Nat → Int32) → Prop} {x2 x3 x4 x5 x8 x9 x10 x14 : Int32} {kc ks : Nat} (hI : oc_I NC TC tc nc us ob res tm mk kd par num ann rcv bod mc ml mb)
    (HJ : ∀ (x2 x3 : Int32) {NC TC tc nc us ob : Nat} {fail res fl fc val : Int32} {tm mk kd par num ann rcv bod mc ml mb cd cb ce org co cr fn fe fp : Nat → Int32}, oc_I NC TC tc nc us ob res tm mk kd par num ann rcv bod mc ml mb → J27 x2 x3 (x5 + 1) (nI NC) (nI TC) (nI tc) (nI nc) fail res fl (nI us) (nI ob) fc val tm mk kd par num ann rcv bod mc ml mb cd cb ce org co cr fn fe fp) : wL_law_541 post L xs J27 x2 x3 x4 x5 x8 x9 x10 x14 kc ks (nI NC) (nI TC) (nI tc) (nI nc) fail res fl (nI us) (nI ob) fc val tm mk kd par num ann rcv bod mc ml mb cd cb ce org co cr fn fe fp := by
  unfold wL_law_541
  exact ⟨by decide, oc_rc (by decide) (fun r => oc_553 hI HJ)⟩
theorem oc_27 {post : Int32 → Prop} {L n4 : Nat} {xs : Nat → Int32} {kc ks : Nat} (hL : L ≤ 260) (hn : n4 ≤ 66) (hp : post 1) : ∀ d s, s + d = n4 + 32 → ∀ (x2 x3 : Int32) {NC TC tc nc us ob : Nat} {fail res fl fc val : Int32} {tm mk kd par num ann rcv bod mc ml mb cd cb ce org co cr fn fe fp : Nat → Int32}, oc_I NC TC tc nc us ob res tm mk kd par num ann rcv bod mc ml mb →
    wL_law_27 post L xs (nI n4) kc ks (d + 1) x2 x3 (nI s) (nI NC) (nI TC) (nI tc) (nI nc) fail res fl (nI us) (nI ob) fc val tm mk kd par num ann rcv bod mc ml mb cd cb ce org co cr fn fe fp := by
  have e32 : nI n4 + 32 = nI (n4 + 32) := nI_add n4 32
  intro d
  induction d with
  | zero =>
    intro s hs x2 x3 NC TC tc nc us ob fail res fl fc val tm mk kd par num ann rcv bod mc ml mb cd cb ce org co cr fn fe fp hI
    refine br_t ?_ hp
    rw [e32]
    exact nI_le (by omega) (by omega)
  | succ d ih =>
    intro s hs x2 x3 NC TC tc nc us ob fail res fl fc val tm mk kd par num ann rcv bod mc ml mb cd cb ce org co cr fn fe fp hI
    have HJ : ∀ (x2 x3 : Int32) {NC TC tc nc us ob : Nat} {fail res fl fc val : Int32} {tm mk kd par num ann rcv bod mc ml mb cd cb ce org co cr fn fe fp : Nat → Int32}, oc_I NC TC tc nc us ob res tm mk kd par num ann rcv bod mc ml mb → wL_law_27 post L xs (nI n4) kc ks (d + 1) x2 x3 (nI s + 1) (nI NC) (nI TC) (nI tc) (nI nc) fail res fl (nI us) (nI ob) fc val tm mk kd par num ann rcv bod mc ml mb cd cb ce org co cr fn fe fp := by
      intro x2 x3 NC TC tc nc us ob fail res fl fc val tm mk kd par num ann rcv bod mc ml mb cd cb ce org co cr fn fe fp hI'
      rw [nI_1]; exact ih (s + 1) (by omega) x2 x3 hI'
    have e4 : (4 : Int32) * nI s = nI (4 * s) := pk_mul 4 s
    refine br_f (by rw [e32]; exact nI_ge (by omega) (by omega)) (nm_r e4 ?_)
    refine oc_ce hL (by omega) (fun r82 => oc_nz (fun r83 => ?_))
    rw [nI_1 (4 * s)]
    refine oc_ce hL (by omega) (fun r84 => oc_nz (fun r85 => ?_))
    rw [show nI (4 * s) + 2 = nI (4 * s + 2) from nI_add (4 * s) 2]
    refine oc_ce hL (by omega) (fun r86 => oc_nz (fun r87 => ?_))
    rw [show nI (4 * s) + 3 = nI (4 * s + 3) from nI_add (4 * s) 3]
    refine oc_ce hL (by omega) (fun r88 => oc_nz (fun r89 => ?_))
    refine br_c (fun _ => nm_e (oc_676 hI HJ)) (fun _ => ⟨by decide, nm_e ?_⟩)
    refine br_c (fun _ => oc_rc (by decide) (fun r => ⟨by decide, oc_rc (by decide) (fun r' => oc_je (oc_jm hI) (fun rr u' J' => ?_) _ _ _)⟩)) (fun _ => ?_)
    · obtain ⟨NC, TC, tc, nc, us, ob, fail, res, fl, fc, val, tm, mk, kd, par, num, ann, rcv, bod, mc, ml, mb, cd, cb, ce, org, co, cr, fn, fe, fp, rfl, hI'⟩ := J'
      exact br_c (fun _ => oc_623 hI' HJ) (fun _ => nm_e (oc_623 hI' HJ))
    refine br_c (fun _ => ⟨by decide, oc_jv (oc_jm hI) (fun rr u' J' => ?_) _⟩) (fun _ => ?_)
    · obtain ⟨NC, TC, tc, nc, us, ob, fail, res, fl, fc, val, tm, mk, kd, par, num, ann, rcv, bod, mc, ml, mb, cd, cb, ce, org, co, cr, fn, fe, fp, rfl, hI'⟩ := J'
      exact br_c (fun _ => oc_623 hI' HJ) (fun _ => nm_e (oc_623 hI' HJ))
    refine br_c (fun _ => oc_rc (by decide) (fun r => oc_jo (oc_jm hI) (fun rr u' J' => ?_) _)) (fun _ => ?_)
    · obtain ⟨NC, TC, tc, nc, us, ob, fail, res, fl, fc, val, tm, mk, kd, par, num, ann, rcv, bod, mc, ml, mb, cd, cb, ce, org, co, cr, fn, fe, fp, rfl, hI'⟩ := J'
      exact br_c (fun _ => oc_623 hI' HJ) (fun _ => nm_e (oc_623 hI' HJ))
    refine br_c (fun _ => oc_223 hI HJ) (fun _ => br_c (fun _ => oc_223 hI HJ) (fun _ => ?_))
    refine br_c (fun _ => oc_rc (by decide) (fun r => ⟨by decide, oc_rc (by decide) (fun r' => oc_ja (oc_jm hI) (fun rr u' J' => ?_) _ _ _)⟩)) (fun _ => ?_)
    · obtain ⟨NC, TC, tc, nc, us, ob, fail, res, fl, fc, val, tm, mk, kd, par, num, ann, rcv, bod, mc, ml, mb, cd, cb, ce, org, co, cr, fn, fe, fp, rfl, hI'⟩ := J'
      exact oc_623 hI' HJ
    refine br_c (fun _ => oc_rc (by decide) (fun r => ⟨by decide, oc_js (oc_jm hI) (fun rr u' J' => ?_) _ _⟩)) (fun _ => ?_)
    · obtain ⟨NC, TC, tc, nc, us, ob, fail, res, fl, fc, val, tm, mk, kd, par, num, ann, rcv, bod, mc, ml, mb, cd, cb, ce, org, co, cr, fn, fe, fp, rfl, hI'⟩ := J'
      exact br_c (fun _ => oc_623 hI' HJ) (fun _ => nm_e (oc_623 hI' HJ))
    refine oc_rc (by decide) (fun r => oc_jc (oc_jm hI) (fun T u' J' _ => ?_))
    obtain ⟨NC, TC, tc, nc, us, ob, fail, res, fl, fc, val, tm, mk, kd, par, num, ann, rcv, bod, mc, ml, mb, cd, cb, ce, org, co, cr, fn, fe, fp, rfl, hI'⟩ := J'
    exact br_c (fun _ => oc_541 hI' HJ) (fun _ => ⟨by decide, by decide, br_c (fun _ => oc_541 hI' HJ) (fun _ => oc_553 hI' HJ)⟩)
