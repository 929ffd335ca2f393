/-! construction -/
def oc_in : Nat → Nat → Int32
  | 0 => fun _ => 0
  | i + 1 => upd (oc_in i) i (-1)
theorem oc_in_lt : ∀ i j, j < i → oc_in i j = -1
  | 0, _, h => absurd h (Nat.not_lt_zero _)
  | i + 1, j, h => by
    rw [oc_in]
    by_cases e : j = i
    · rw [e, pk_us]
    · rw [pk_un e]; exact oc_in_lt i j (by omega)
theorem oc_cl8 (p : Int32) : ∃ c : Nat, 8 ≤ c ∧ c ≤ 32 ∧ ∀ F : Int32 → Prop, F (nI c) → (8 ≤ p → ((p ≤ 32 → F p) ∧ (¬ p ≤ 32 → F 32))) ∧ (¬ 8 ≤ p → F 8) := by
  by_cases a : 8 ≤ p
  · by_cases b : p ≤ 32
    · have n0 : ¬ p < 0 := fun q => by
        rw [Int32.lt_iff_toInt_lt] at q
        rw [Int32.le_iff_toInt_le] at a
        have e8 : (8 : Int32).toInt = 8 := by decide
        have e0 : (0 : Int32).toInt = 0 := by decide
        omega
      obtain ⟨c, hc, rfl⟩ := nI_of2 (M := 32) (n := 32) (by decide) n0 b
      have h8 : 8 ≤ c := by
        have := (nI_leI (a := 8) (b := c) (by omega) (by omega)).mp a
        omega
      exact ⟨c, h8, hc, fun F h => br_t a (br_t b h)⟩
    · exact ⟨32, by omega, by omega, fun F h => br_t a (br_f b h)⟩
  · exact ⟨8, by omega, by omega, fun F h => br_f a h⟩
theorem i_vc0 (k0 : Int32) (k1 : Int32) : wpX_init (fun u => wpY_init (fun v => i_Rel 2 u v) k0 k1) k0 k1 := by
  obtain ⟨c, c1, c2, hc⟩ := oc_cl8 k0
  obtain ⟨d, d1, d2, hd⟩ := oc_cl8 k1
  have fin : i_Rel 2 (nI c, nI d, 2, 0, -1, -1, 0, 0, 0, 0, -1, oc_in 512, fun _ => 0, fun _ => 0, fun _ => 0, fun _ => 0, fun _ => 0, fun _ => 0, fun _ => 0, fun _ => 0, fun _ => 0, fun _ => 0, fun _ => 0, fun _ => 0, fun _ => 0, fun _ => 0, fun _ => 0, fun _ => 0, fun _ => 0, fun _ => 0, fun _ => 0) (nI c, nI d, 2, 0, -1, 0, 0, 0, 0, 0, -1, oc_in 512, fun _ => 0, fun _ => 0, fun _ => 0, fun _ => 0, fun _ => 0, fun _ => 0, fun _ => 0, fun _ => 0, fun _ => 0, fun _ => 0, fun _ => 0, fun _ => 0, fun _ => 0, fun _ => 0, fun _ => 0, fun _ => 0, fun _ => 0, fun _ => 0, fun _ => 0, fun _ => 0) := by
    refine oc_mk (NC := c) (TC := d) (tc := 2) (nc := 0) (us := 0) (ob := 0) ⟨c2, d2, by omega, by omega, by omega, by omega, by omega, fun n hn => absurd hn (Nat.not_lt_zero _), ⟨fun l hl => oc_in_lt _ _ (by omega), fun t ht => ⟨?_, fun l hl => Or.inl (oc_in_lt _ _ (by omega))⟩⟩, fun _ _ => rfl, fun n hn => absurd hn (Nat.not_lt_zero _), Or.inl rfl⟩
    have : oc_lc (oc_in 512) t = 0 := oc_sm_z 16 fun i hi => if_pos (oc_in_lt _ _ (by omega))
    rw [this, nI_0]
  have hY : wpY_init (fun v => i_Rel 2 (nI c, nI d, 2, 0, -1, -1, 0, 0, 0, 0, -1, oc_in 512, fun _ => 0, fun _ => 0, fun _ => 0, fun _ => 0, fun _ => 0, fun _ => 0, fun _ => 0, fun _ => 0, fun _ => 0, fun _ => 0, fun _ => 0, fun _ => 0, fun _ => 0, fun _ => 0, fun _ => 0, fun _ => 0, fun _ => 0, fun _ => 0, fun _ => 0) v) k0 k1 := by
    have key : ∀ n i, i + n = 512 → wY_init_235 (fun v => i_Rel 2 (nI c, nI d, 2, 0, -1, -1, 0, 0, 0, 0, -1, oc_in 512, fun _ => 0, fun _ => 0, fun _ => 0, fun _ => 0, fun _ => 0, fun _ => 0, fun _ => 0, fun _ => 0, fun _ => 0, fun _ => 0, fun _ => 0, fun _ => 0, fun _ => 0, fun _ => 0, fun _ => 0, fun _ => 0, fun _ => 0, fun _ => 0, fun _ => 0) v) (nI c) (nI d) 0 0 0 0 0 0 0 0 0 (n + 1) (nI i) (oc_in i) (fun _ => 0) (fun _ => 0) (fun _ => 0) (fun _ => 0) (fun _ => 0) (fun _ => 0) (fun _ => 0) (fun _ => 0) (fun _ => 0) (fun _ => 0) (fun _ => 0) (fun _ => 0) (fun _ => 0) (fun _ => 0) (fun _ => 0) (fun _ => 0) (fun _ => 0) (fun _ => 0) (fun _ => 0) (fun _ => 0) := by
      intro n
      induction n with
      | zero =>
        intro i hi
        rw [show i = 512 by omega]
        exact br_t (nI_le (a := 512) (by omega) (by omega)) fin
      | succ n ih =>
        intro i hi
        refine br_f (nI_ge (b := 512) (by omega) (by omega)) ⟨vp_in_nI (by omega) (by omega), nm_e (nm_r (nI_1 i) ?_)⟩
        rw [nI_clamp (n := i) (by omega)]
        exact ih (i + 1) (by omega)
    exact hc (fun z => wY_init_203 (fun v => i_Rel 2 (nI c, nI d, 2, 0, -1, -1, 0, 0, 0, 0, -1, oc_in 512, fun _ => 0, fun _ => 0, fun _ => 0, fun _ => 0, fun _ => 0, fun _ => 0, fun _ => 0, fun _ => 0, fun _ => 0, fun _ => 0, fun _ => 0, fun _ => 0, fun _ => 0, fun _ => 0, fun _ => 0, fun _ => 0, fun _ => 0, fun _ => 0, fun _ => 0) v) k1 z 0 0 0 0 0 0 0 0 0 0 0 (fun _ => 0) (fun _ => 0) (fun _ => 0) (fun _ => 0) (fun _ => 0) (fun _ => 0) (fun _ => 0) (fun _ => 0) (fun _ => 0) (fun _ => 0) (fun _ => 0) (fun _ => 0) (fun _ => 0) (fun _ => 0) (fun _ => 0) (fun _ => 0) (fun _ => 0) (fun _ => 0) (fun _ => 0) (fun _ => 0) (fun _ => 0))
      (hd (fun z => ∃ n235 : Nat, wY_init_235 (fun v => i_Rel 2 (nI c, nI d, 2, 0, -1, -1, 0, 0, 0, 0, -1, oc_in 512, fun _ => 0, fun _ => 0, fun _ => 0, fun _ => 0, fun _ => 0, fun _ => 0, fun _ => 0, fun _ => 0, fun _ => 0, fun _ => 0, fun _ => 0, fun _ => 0, fun _ => 0, fun _ => 0, fun _ => 0, fun _ => 0, fun _ => 0, fun _ => 0, fun _ => 0) v) (nI c) z 0 0 0 0 0 0 0 0 0 n235 0 (fun _ => 0) (fun _ => 0) (fun _ => 0) (fun _ => 0) (fun _ => 0) (fun _ => 0) (fun _ => 0) (fun _ => 0) (fun _ => 0) (fun _ => 0) (fun _ => 0) (fun _ => 0) (fun _ => 0) (fun _ => 0) (fun _ => 0) (fun _ => 0) (fun _ => 0) (fun _ => 0) (fun _ => 0) (fun _ => 0) (fun _ => 0)) ⟨513, key 512 0 rfl⟩)
  have key : ∀ n i, i + n = 512 → wX_init_242 (fun u => wpY_init (fun v => i_Rel 2 u v) k0 k1) (nI c) (nI d) 2 0 (-1) (-1) 0 0 0 0 (-1) (n + 1) (nI i) (oc_in i) (fun _ => 0) (fun _ => 0) (fun _ => 0) (fun _ => 0) (fun _ => 0) (fun _ => 0) (fun _ => 0) (fun _ => 0) (fun _ => 0) (fun _ => 0) (fun _ => 0) (fun _ => 0) (fun _ => 0) (fun _ => 0) (fun _ => 0) (fun _ => 0) (fun _ => 0) (fun _ => 0) (fun _ => 0) := by
    intro n
    induction n with
    | zero =>
      intro i hi
      rw [show i = 512 by omega]
      exact br_t (nI_le (a := 512) (by omega) (by omega)) hY
    | succ n ih =>
      intro i hi
      refine br_f (nI_ge (b := 512) (by omega) (by omega)) ⟨vp_in_nI (by omega) (by omega), nm_e (nm_r (nI_1 i) ?_)⟩
      rw [nI_clamp (n := i) (by omega)]
      exact ih (i + 1) (by omega)
  have hcX : ∀ post : Int32 → Prop, post (nI c) → wpX_clamp post k0 8 32 := fun post h => hc post h
  have hdX : ∀ post : Int32 → Prop, post (nI d) → wpX_clamp post k1 8 32 := fun post h => hd post h
  unfold wpX_init
  refine hcX _ ?_
  refine hdX _ ?_
  exact ⟨513, key 512 0 rfl⟩
/-! climbing, as both sides do it -/
theorem oc_xbi {NC TC tc nc us ob : Nat} {fail res fl fc val : Int32} {tm mk kd par num ann rcv bod mc ml mb cd cb ce org co cr fn fe fp : Nat → Int32} {post : Int32 → Prop} {p n : Nat} (hp : p < 32) (h1 : kd p = 1 ∨ bod p = nI n → post 1) (h0 : ¬ (kd p = 1 ∨ bod p = nI n) → post 0) : wpX_bindsIn post (nI NC, nI TC, nI tc, nI nc, fail, res, fl, nI us, nI ob, fc, val, tm, mk, kd, par, num, ann, rcv, bod, mc, ml, mb, cd, cb, ce, org, co, cr, fn, fe, fp) (nI p) (nI n) := by
  have vp : vp_in (nI p) 32 := vp_in_nI hp (by omega)
  have e : (nI p).toNatClampNeg = p := nI_clamp (by omega)
  unfold wpX_bindsIn
  refine ⟨vp, ?_⟩
  rw [e]
  refine br_c (fun a => h1 (Or.inl a)) (fun a => ⟨vp, br_c (fun b => h1 (Or.inr b)) (fun b => h0 fun q => q.elim a b)⟩)
theorem oc_xbl {NC TC tc nc us ob : Nat} {fail res fl fc val : Int32} {tm mk kd par num ann rcv bod mc ml mb cd cb ce org co cr fn fe fp : Nat → Int32} {post : Int32 → Prop} {r : Nat} (hc : nc ≤ 32) (hr : r < nc) (hP : oc_Pa par nc) : ∀ f n k i, n < nc → k < 16 → i ≤ n → nc - n < f →
    (∀ p : Nat, p < nc → oc_bo par kd bod r n k = (p : Int) → post (nI p)) → ((∀ p : Nat, ¬ oc_bo par kd bod r n k = (p : Int)) → post (-1)) →
    wX_binderOf_13 post (nI r) (nI NC) (nI TC) (nI tc) (nI nc) fail res fl (nI us) (nI ob) fc val tm mk kd par num ann rcv bod mc ml mb cd cb ce org co cr fn fe fp f (nI k) (nI n) (nI i) := by
  intro f
  induction f with
  | zero => intro n k i a1 a2 a3 a4; omega
  | succ f ih =>
    intro n k i a1 a2 a3 a4 hf hn
    refine br_f (nI_ge (b := 32) (by omega) (by omega)) (pk_eq n r (fun e => hn fun p q => ?_) (fun e => ⟨vp_in_nI (by omega) (by omega), ?_⟩))
    · rw [e, oc_bo_r] at q; omega
    rw [nI_clamp (n := n) (by omega)]
    rcases hP n a1 with h | ⟨p, x1, x2, x3⟩
    · refine nm_r h (br_t rfl (hn fun p q => ?_))
      rw [oc_bo_n h e] at q; omega
    · refine nm_r x3 (br_f (oc_m1 (by omega)) (oc_xbi (by omega) (fun b => br_f oc_10 ?_) (fun b => br_t rfl (nm_r (nI_1 i) ?_))))
      · cases k with
        | zero =>
          refine br_t rfl (hf p x2 (oc_bo_0 x3 x1 (by omega) e b))
        | succ k =>
          refine br_f (nI_ne0 (by omega) (by omega)) (nm_r (pk_m1 k) (nm_r (nI_1 i) ?_))
          refine ih p k (i + 1) x2 (by omega) (by omega) (by omega) (fun p' y1 y2 => hf p' y1 ?_) (fun q => hn fun p' y => q p' ?_)
          · rw [oc_bo_1 x3 x1 (by omega) e b]; exact y2
          · rw [oc_bo_1 x3 x1 (by omega) e b] at y; exact y
      · refine ih p k (i + 1) x2 a2 (by omega) (by omega) (fun p' y1 y2 => hf p' y1 ?_) (fun q => hn fun p' y => q p' ?_)
        · rw [oc_bo_2 x3 x1 (by omega) e b]; exact y2
        · rw [oc_bo_2 x3 x1 (by omega) e b] at y; exact y
theorem oc_xbo {NC TC tc nc us ob : Nat} {fail res fl fc val : Int32} {tm mk kd par num ann rcv bod mc ml mb cd cb ce org co cr fn fe fp : Nat → Int32} {post : Int32 → Prop} {r n k : Nat} (hc : nc ≤ 32) (hr : r < nc) (hP : oc_Pa par nc) (hn : n < nc) (hk : k < 16) (ek : num n = nI k)
    (h1 : ∀ p : Nat, p < nc → oc_bo par kd bod r n k = (p : Int) → post (nI p)) (h0 : (∀ p : Nat, ¬ oc_bo par kd bod r n k = (p : Int)) → post (-1)) : wpX_binderOf post (nI NC, nI TC, nI tc, nI nc, fail, res, fl, nI us, nI ob, fc, val, tm, mk, kd, par, num, ann, rcv, bod, mc, ml, mb, cd, cb, ce, org, co, cr, fn, fe, fp) (nI n) (nI r) := by
  unfold wpX_binderOf
  refine ⟨vp_in_nI (by omega) (by omega), nm_r ?_ ⟨nc - n + 1, oc_xbl hc hr hP _ n k 0 hn hk (Nat.zero_le _) (by omega) h1 h0⟩⟩
  rw [nI_clamp (n := n) (by omega), ek]
theorem oc_bod {nc tc : Nat} {kd par num ann rcv bod mc ml mb : Nat → Int32} (N : oc_Nd nc tc kd par num ann rcv bod mc ml mb) {p n : Nat} (hp : p < nc) (hn : n < 2 ^ 31) (h : bod p = nI n) : kd p = 3 := by
  obtain ⟨-, ⟨k1, k2, -⟩ | ⟨k1, k2, -⟩ | ⟨k1, k2, -⟩ | ⟨k1, -⟩⟩ := N p hp
  · rw [k2] at h; exact absurd h (oc_m1' hn)
  · rw [k2] at h; exact absurd h (oc_m1' hn)
  · rw [k2] at h; exact absurd h (oc_m1' hn)
  · exact k1
theorem oc_ybl {NC TC tc nc us ob : Nat} {fail sp ret fu res : Int32} {tm kY nk rcv bod ann par mc ml mb rt rn cb oe org co cr gn ge gd gs : Nat → Int32} {num kd : Nat → Int32} {post : Int32 → Prop} {r k : Nat} (hc : nc ≤ 32) (hr : r < nc) (hN : oc_Nd nc tc kd par num ann rcv bod mc ml mb) (hK : ∀ n, n < nc → kY n = kd n + 1 ∧ (¬ kd n = 1 → nk n = num n)) (hk : k < 16) : ∀ f n c i, n < nc → c ≤ k → i ≤ n → nc - n < f →
    (∀ p : Nat, p < nc → oc_bo par kd bod r n (k - c) = (p : Int) → post (ann p)) → (oc_bo par kd bod r n (k - c) = -1 → post (-1)) → (oc_bo par kd bod r n (k - c) = -2 → post (-2)) →
    wY_binderType_9 post (nI r) (nI k) (nI NC) (nI TC) (nI tc) (nI nc) fail sp ret (nI us) (nI ob) fu res tm kY nk rcv bod ann par mc ml mb rt rn cb oe org co cr gn ge gd gs f (nI n) (nI c) (nI i) := by
  intro f
  induction f with
  | zero => intro n c i a1 a2 a3 a4; omega
  | succ f ih =>
    intro n c i a1 a2 a3 a4 hf h1 h2
    refine br_f (nI_ge (b := 40) (by omega) (by omega)) (pk_eq n r (fun e => h1 ?_) (fun e => ⟨vp_in_nI (by omega) (by omega), ?_⟩))
    · rw [e, oc_bo_r]
    rw [nI_clamp (n := n) (by omega)]
    rcases oc_Nd_Pa hN n a1 with h | ⟨p, x1, x2, x3⟩
    · exact nm_r h (br_f (by decide) (h2 (oc_bo_n h e)))
    · have vp : vp_in (nI p) 32 := vp_in_nI (by omega) (by omega)
      have cp : (nI p).toNatClampNeg = p := nI_clamp (by omega)
      have yes : kd p = 1 ∨ bod p = nI n → wY_binderType_75 post (wY_binderType_9 post (nI r) (nI k) (nI NC) (nI TC) (nI tc) (nI nc) fail sp ret (nI us) (nI ob) fu res tm kY nk rcv bod ann par mc ml mb rt rn cb oe org co cr gn ge gd gs f) (nI r) (nI k) (nI c) (nI i) (nI p) (nI NC) (nI TC) (nI tc) (nI nc) fail sp ret (nI us) (nI ob) fu res tm kY nk rcv bod ann par mc ml mb rt rn cb oe org co cr gn ge gd gs := fun b => by
        refine pk_eq c k (fun q => ⟨vp, ?_⟩) (fun q => nm_r (nI_1 c) (nm_r (nI_1 i) ?_))
        · rw [cp]
          refine hf p x2 ?_
          rw [show k - c = 0 by omega]
          exact oc_bo_0 x3 x1 (by omega) e b
        · have e1 : oc_bo par kd bod r n (k - c) = oc_bo par kd bod r p (k - (c + 1)) := by
            rw [show k - c = (k - (c + 1)) + 1 by omega]
            exact oc_bo_1 x3 x1 (by omega) e b
          rw [e1] at hf h1 h2
          exact ih p (c + 1) (i + 1) x2 (by omega) (by omega) (by omega) hf h1 h2
      have no : ¬ (kd p = 1 ∨ bod p = nI n) → wY_binderType_9 post (nI r) (nI k) (nI NC) (nI TC) (nI tc) (nI nc) fail sp ret (nI us) (nI ob) fu res tm kY nk rcv bod ann par mc ml mb rt rn cb oe org co cr gn ge gd gs f (nI p) (nI c) (nI (i + 1)) := fun b => by
        have e1 : oc_bo par kd bod r n (k - c) = oc_bo par kd bod r p (k - c) := oc_bo_2 x3 x1 (by omega) e b
        rw [e1] at hf h1 h2
        exact ih p c (i + 1) x2 a2 (by omega) (by omega) hf h1 h2
      refine nm_r x3 (br_t (nI_pos' (by omega)) ⟨vp, ?_⟩)
      rw [cp]
      rcases oc_ky hN hK x2 with ⟨q1, q2⟩ | ⟨q1, q2⟩ | ⟨q1, q2⟩ | ⟨q1, q2⟩
      · refine br_f (by rw [q2]; decide) ⟨vp, br_f (by rw [q2]; decide) (nm_r (nI_1 i) (no fun w => ?_))⟩
        rcases w with w | w
        · rw [q1] at w; exact absurd w (by decide)
        · have := oc_bod hN x2 (by omega) w; rw [q1] at this; exact absurd this (by decide)
      · exact br_t q2 (yes (Or.inl q1))
      · refine br_f (by rw [q2]; decide) ⟨vp, br_f (by rw [q2]; decide) (nm_r (nI_1 i) (no fun w => ?_))⟩
        rcases w with w | w
        · rw [q1] at w; exact absurd w (by decide)
        · have := oc_bod hN x2 (by omega) w; rw [q1] at this; exact absurd this (by decide)
      · refine br_f (by rw [q2]; decide) ⟨vp, br_t q2 ⟨vp, br_c (fun w => yes (Or.inr w)) (fun w => nm_r (nI_1 i) (no fun w' => ?_))⟩⟩
        rcases w' with w' | w'
        · rw [q1] at w'; exact absurd w' (by decide)
        · exact w w'
theorem oc_ybo {NC TC tc nc us ob : Nat} {fail sp ret fu res : Int32} {tm kY nk rcv bod ann par mc ml mb rt rn cb oe org co cr gn ge gd gs : Nat → Int32} {num kd : Nat → Int32} {post : Int32 → Prop} {r n k : Nat} (hc : nc ≤ 32) (hr : r < nc) (hN : oc_Nd nc tc kd par num ann rcv bod mc ml mb) (hK : ∀ n, n < nc → kY n = kd n + 1 ∧ (¬ kd n = 1 → nk n = num n)) (hn : n < nc) (hk : k < 16)
    (h : ∀ p : Nat, p < nc → oc_bo par kd bod r n k = (p : Int) → post (ann p)) (h1 : oc_bo par kd bod r n k = -1 → post (-1)) (h2 : oc_bo par kd bod r n k = -2 → post (-2)) : wpY_binderType post (nI NC, nI TC, nI tc, nI nc, fail, sp, ret, nI us, nI ob, fu, res, tm, kY, nk, rcv, bod, ann, par, mc, ml, mb, rt, rn, cb, oe, org, co, cr, gn, ge, gd, gs) (nI n) (nI r) (nI k) :=
  ⟨nc - n + 1, oc_ybl hc hr hN hK hk _ n 0 0 hn (Nat.zero_le _) (Nat.zero_le _) (by omega) h h1 h2⟩
theorem oc_xli {NC TC tc nc us ob : Nat} {fail res fl fc val : Int32} {tm mk kd par num ann rcv bod mc ml mb cd cb ce org co cr fn fe fp : Nat → Int32} {post : Int32 → Prop} {r n : Nat} (hc : nc ≤ 32) (hr : r < nc) (hP : oc_Pa par nc) (hn : n < nc) (h1 : oc_li par r n = true → post 1) (h0 : oc_li par r n = false → post 0) : wpX_liesIn post (nI NC, nI TC, nI tc, nI nc, fail, res, fl, nI us, nI ob, fc, val, tm, mk, kd, par, num, ann, rcv, bod, mc, ml, mb, cd, cb, ce, org, co, cr, fn, fe, fp) (nI n) (nI r) := by
  have key : ∀ f n i, n < nc → i ≤ n → nc - n + 1 < f → (oc_li par r n = true → post 1) → (oc_li par r n = false → post 0) → wX_liesIn_5 post (nI r) (nI NC) (nI TC) (nI tc) (nI nc) fail res fl (nI us) (nI ob) fc val tm mk kd par num ann rcv bod mc ml mb cd cb ce org co cr fn fe fp f (nI n) (nI i) := by
    intro f
    induction f with
    | zero => intro n i a1 a2 a3; omega
    | succ f ih =>
      intro n i a1 a2 a3 h1 h0
      refine br_f (nI_ge (b := 32) (by omega) (by omega)) (br_f (oc_m1 (by omega)) (pk_eq n r (fun e => h1 ?_) (fun e => ⟨vp_in_nI (by omega) (by omega), ?_⟩)))
      · rw [e]; exact oc_li_r _ _
      rw [nI_clamp (n := n) (by omega)]
      rcases hP n a1 with h | ⟨p, x1, x2, x3⟩
      · refine nm_r h (nm_r (nI_1 i) ?_)
        have q := h0 (oc_li_n h e)
        obtain ⟨g, rfl⟩ : ∃ g, f = g + 1 := ⟨f - 1, by omega⟩
        exact br_c (fun _ => q) (fun _ => br_t rfl q)
      · rw [oc_li_s x3 x1 (by omega) e] at h1 h0
        exact nm_r x3 (nm_r (nI_1 i) (ih p (i + 1) x2 (by omega) (by omega) h1 h0))
  exact ⟨nc - n + 2, key _ n 0 hn (Nat.zero_le _) (by omega) h1 h0⟩
/-! terms without free variables -/
def oc_Cl (nc : Nat) (par kd num bod : Nat → Int32) (r : Nat) : Prop := ∀ n, n < nc → kd n = 0 → ¬ oc_bo par kd bod r n (num n).toNatClampNeg = -1
theorem oc_var {nc tc : Nat} {kd par num ann rcv bod mc ml mb : Nat → Int32} (N : oc_Nd nc tc kd par num ann rcv bod mc ml mb) {n : Nat} (hn : n < nc) (h : kd n = 0) : ∃ k, k < 16 ∧ num n = nI k := by
  obtain ⟨-, ⟨k1, k2, k3⟩ | ⟨k1, -⟩ | ⟨k1, -⟩ | ⟨k1, -⟩⟩ := N n hn
  · exact k3
  · rw [h] at k1; exact absurd k1 (by decide)
  · rw [h] at k1; exact absurd k1 (by decide)
  · rw [h] at k1; exact absurd k1 (by decide)
theorem oc_xcl {NC TC tc nc us ob : Nat} {fail res fl fc val : Int32} {tm mk kd par num ann rcv bod mc ml mb cd cb ce org co cr fn fe fp : Nat → Int32} {post : Int32 → Prop} {r : Nat} (hc : nc ≤ 32) (hr : r < nc) (hN : oc_Nd nc tc kd par num ann rcv bod mc ml mb) (h1 : oc_Cl nc par kd num bod r → post 1) (h0 : ¬ oc_Cl nc par kd num bod r → post 0) : wpX_isClosed post (nI NC, nI TC, nI tc, nI nc, fail, res, fl, nI us, nI ob, fc, val, tm, mk, kd, par, num, ann, rcv, bod, mc, ml, mb, cd, cb, ce, org, co, cr, fn, fe, fp) (nI r) := by
  have hP := oc_Nd_Pa hN
  have key : ∀ d i, i + d = nc → (∀ n, n < i → kd n = 0 → ¬ oc_bo par kd bod r n (num n).toNatClampNeg = -1) → wX_isClosed_2 post (nI r) (nI NC) (nI TC) (nI tc) (nI nc) fail res fl (nI us) (nI ob) fc val tm mk kd par num ann rcv bod mc ml mb cd cb ce org co cr fn fe fp (d + 1) (nI i) := by
    intro d
    induction d with
    | zero =>
      intro i hi hq
      exact br_t (nI_le (by omega) (by omega)) (h1 fun n hn => hq n (by omega))
    | succ d ih =>
      intro i hi hq
      have nx : (kd i = 0 → ¬ oc_bo par kd bod r i (num i).toNatClampNeg = -1) → wX_isClosed_2 post (nI r) (nI NC) (nI TC) (nI tc) (nI nc) fail res fl (nI us) (nI ob) fc val tm mk kd par num ann rcv bod mc ml mb cd cb ce org co cr fn fe fp (d + 1) (nI (i + 1)) := fun w => ih (i + 1) (by omega) fun n hn => by
        by_cases e : n = i
        · rw [e]; exact w
        · exact hq n (by omega)
      refine br_f (nI_ge (by omega) (by omega)) ⟨vp_in_nI (by omega) (by omega), ?_⟩
      rw [nI_clamp (n := i) (by omega)]
      refine br_c (fun z => ?_) (fun z => nm_r (nI_1 i) (nx fun z' => absurd z' z))
      obtain ⟨k, hk, ek⟩ := oc_var hN (show i < nc by omega) z
      have ck : (num i).toNatClampNeg = k := by rw [ek, nI_clamp (by omega)]
      refine oc_xli hc hr hP (by omega) (fun hl => br_f oc_10 (oc_xbo hc hr hP (by omega) hk ek (fun p hp e => br_f (oc_m1 (by omega)) (nm_r (nI_1 i) (nx fun _ q => ?_))) (fun q => br_t rfl (h0 fun w => ?_)))) (fun hl => br_t rfl (nm_r (nI_1 i) (nx fun _ q => ?_)))
      · rw [ck, e] at q; omega
      · have w1 := w i (by omega) z
        rw [ck] at w1
        rcases oc_bo_3 (kd := kd) (bod := bod) (r := r) hP hc i (by omega) k with y | y | ⟨p, m, y1, y2, y3, y4⟩
        · exact w1 y
        · exact oc_bo_m2 hP hc i (by omega) k hl y
        · exact q p y3
      · have := oc_bo_li hP hc i (by omega) _ q
        rw [hl] at this
        exact absurd this (by decide)
  exact ⟨nc + 1, key nc 0 (by omega) fun n hn => absurd hn (Nat.not_lt_zero _)⟩
theorem oc_ycl {NC TC tc nc us ob : Nat} {fail sp ret fu res : Int32} {tm kY nk rcv bod ann par mc ml mb rt rn cb oe org co cr gn ge gd gs : Nat → Int32} {num kd : Nat → Int32} {post : Int32 → Prop} {r : Nat} (htc : tc ≤ 32) (hc : nc ≤ 32) (hr : r < nc) (hN : oc_Nd nc tc kd par num ann rcv bod mc ml mb) (hK : ∀ n, n < nc → kY n = kd n + 1 ∧ (¬ kd n = 1 → nk n = num n)) (h1 : oc_Cl nc par kd num bod r → post 1) (h0 : ¬ oc_Cl nc par kd num bod r → post 0) : wpY_closed post (nI NC, nI TC, nI tc, nI nc, fail, sp, ret, nI us, nI ob, fu, res, tm, kY, nk, rcv, bod, ann, par, mc, ml, mb, rt, rn, cb, oe, org, co, cr, gn, ge, gd, gs) (nI r) := by
  have hP := oc_Nd_Pa hN
  have key : ∀ d i, i + d = r + 1 → (∀ n, n < i → kd n = 0 → ¬ oc_bo par kd bod r n (num n).toNatClampNeg = -1) → wY_closed_2 post (nI r) (nI NC) (nI TC) (nI tc) (nI nc) fail sp ret (nI us) (nI ob) fu res tm kY nk rcv bod ann par mc ml mb rt rn cb oe org co cr gn ge gd gs (d + 1) (nI i) := by
    intro d
    induction d with
    | zero =>
      intro i hi hq
      refine br_t (nI_lt (by omega) (by omega)) (h1 fun n hn z q => ?_)
      by_cases e : n < i
      · exact hq n e z q
      · have := oc_li_le hP hc n hn (oc_bo_li hP hc n hn _ q)
        omega
    | succ d ih =>
      intro i hi hq
      have nx : (kd i = 0 → ¬ oc_bo par kd bod r i (num i).toNatClampNeg = -1) → wY_closed_2 post (nI r) (nI NC) (nI TC) (nI tc) (nI nc) fail sp ret (nI us) (nI ob) fu res tm kY nk rcv bod ann par mc ml mb rt rn cb oe org co cr gn ge gd gs (d + 1) (nI (i + 1)) := fun w => ih (i + 1) (by omega) fun n hn => by
        by_cases e : n = i
        · rw [e]; exact w
        · exact hq n (by omega)
      have vi : vp_in (nI i) 32 := vp_in_nI (by omega) (by omega)
      refine br_f (nI_nlt (by omega) (by omega)) ⟨vi, ?_⟩
      rw [nI_clamp (n := i) (by omega)]
      rcases oc_ky hN hK (show i < nc by omega) with ⟨q1, q2⟩ | ⟨q1, q2⟩ | ⟨q1, q2⟩ | ⟨q1, q2⟩
      · obtain ⟨k, hk, ek⟩ := oc_var hN (show i < nc by omega) q1
        have ck : (num i).toNatClampNeg = k := by rw [ek, nI_clamp (by omega)]
        refine br_t q2 ⟨vi, ?_⟩
        rw [(hK i (by omega)).2 (by rw [q1]; decide), ek]
        refine oc_ybo hc hr hN hK (by omega) hk (fun p hp e => ?_) (fun e => br_t rfl (h0 fun w => w i (by omega) q1 (by rw [ck]; exact e))) (fun e => br_f (by decide) (nm_r (nI_1 i) (nx fun _ q => ?_)))
        · have na : ¬ ann p = -1 := by
            rcases oc_bo_3 (kd := kd) (bod := bod) (r := r) hP hc i (by omega) k with y | y | ⟨p', m, y1, y2, y3, y4⟩
            · rw [e] at y; omega
            · rw [e] at y; omega
            · have : p' = p := by rw [e] at y3; omega
              subst this
              obtain ⟨A, hA, eA⟩ := oc_ann hN y1 (by omega) y4
              rw [eA]
              exact oc_m1 (by omega)
          exact br_f na (nm_r (nI_1 i) (nx fun _ q => by rw [ck, e] at q; omega))
        · rw [ck, e] at q; omega
      · exact br_f (by rw [q2]; decide) (nm_r (nI_1 i) (nx fun z => by rw [q1] at z; exact absurd z (by decide)))
      · exact br_f (by rw [q2]; decide) (nm_r (nI_1 i) (nx fun z => by rw [q1] at z; exact absurd z (by decide)))
      · exact br_f (by rw [q2]; decide) (nm_r (nI_1 i) (nx fun z => by rw [q1] at z; exact absurd z (by decide)))
  exact ⟨r + 2, key (r + 1) 0 (by omega) fun n hn => absurd hn (Nat.not_lt_zero _)⟩
