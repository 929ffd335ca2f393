def oc_in : Nat → Nat → Int32
  | 0 => fun _ => 0
  | i + 1 => upd (oc_in i) i (-1)
theorem oc_in_lt : ∀ i j, j < i → oc_in i j = -1
  | 0, _, h => absurd h (Nat.not_lt_zero _)
  | i + 1, j, h => by
    rw [oc_in]
    by_cases e : j = i
    · rw [e, pk_us]
    · rw [pk_un e]; exact oc_in_lt i j (by omega)
theorem oc_xbi {NC TC tc nc us ob : Nat} {fail res fl fc val : Int32} {tm mk kd par num ann rcv bod mc ml mb cd cb ce org co cr fn fe fp : Nat → Int32} {post : Int32 → Prop} {p n : Nat} (hp : p < 32) (h1 : kd p = 1 ∨ bod p = nI n → post 1) (h0 : ¬ (kd p = 1 ∨ bod p = nI n) → post 0) : wpX_bindsIn post (nI NC, nI TC, nI tc, nI nc, fail, res, fl, nI us, nI ob, fc, val, tm, mk, kd, par, num, ann, rcv, bod, mc, ml, mb, cd, cb, ce, org, co, cr, fn, fe, fp) (nI p) (nI n) := by
  have vp : vp_in (nI p) 32 := vp_in_nI hp (by omega)
  have e : (nI p).toNatClampNeg = p := nI_clamp (by omega)
  unfold wpX_bindsIn
  refine ⟨vp, ?_⟩
  rw [e]
  refine br_c (fun a => h1 (Or.inl a)) (fun a => ⟨vp, br_c (fun b => h1 (Or.inr b)) (fun b => h0 fun q => q.elim a b)⟩)
theorem oc_xbl {NC TC tc nc us ob : Nat} {fail res fl fc val : Int32} {tm mk kd par num ann rcv bod mc ml mb cd cb ce org co cr fn fe fp : Nat → Int32} {post : Int32 → Prop} {r : Nat} (hc : nc ≤ 32) (hr : r < nc) (hP : oc_Pa par nc) : ∀ f n k i, n < nc → k < 16 → i ≤ n → nc - n < f →
    (∀ p : Nat, p < nc → oc_bo par kd bod r n k = (p : Int) → post (nI p)) → ((∀ p : Nat, ¬ oc_bo par kd bod r n k = (p : Int)) → post (-1)) →
    wX_binderOf_13 post (nI r) (nI NC) (nI TC) (nI tc) (nI nc) fail res fl (nI us) (nI ob) fc val tm mk kd par num ann rcv bod mc ml mb cd cb ce org co cr fn fe fp f (nI k) (nI n) (nI i) := by
  intro f
  induction f with
  | zero => intro n k i a1 a2 a3 a4; omega
  | succ f ih =>
    intro n k i a1 a2 a3 a4 hf hn
    refine br_f (nI_ge (b := 32) (by omega) (by omega)) (pk_eq n r (fun e => hn fun p q => ?_) (fun e => ⟨vp_in_nI (by omega) (by omega), ?_⟩))
    · rw [e, oc_bo_r] at q; omega
    rw [nI_clamp (n := n) (by omega)]
    rcases hP n a1 with h | ⟨p, x1, x2, x3⟩
    · refine nm_r h (br_t rfl (hn fun p q => ?_))
      rw [oc_bo_n h e] at q; omega
    · refine nm_r x3 (br_f (oc_m1 (by omega)) (oc_xbi (by omega) (fun b => br_f oc_10 ?_) (fun b => br_t rfl (nm_r (nI_1 i) ?_))))
      · cases k with
        | zero =>
          refine br_t rfl (hf p x2 (oc_bo_0 x3 x1 (by omega) e b))
        | succ k =>
          refine br_f (nI_ne0 (by omega) (by omega)) (nm_r (pk_m1 k) (nm_r (nI_1 i) ?_))
          refine ih p k (i + 1) x2 (by omega) (by omega) (by omega) (fun p' y1 y2 => hf p' y1 ?_) (fun q => hn fun p' y => q p' ?_)
          · rw [oc_bo_1 x3 x1 (by omega) e b]; exact y2
          · rw [oc_bo_1 x3 x1 (by omega) e b] at y; exact y
      · refine ih p k (i + 1) x2 a2 (by omega) (by omega) (fun p' y1 y2 => hf p' y1 ?_) (fun q => hn fun p' y => q p' ?_)
        · rw [oc_bo_2 x3 x1 (by omega) e b]; exact y2
        · rw [oc_bo_2 x3 x1 (by omega) e b] at y; exact y
theorem oc_xbo {NC TC tc nc us ob : Nat} {fail res fl fc val : Int32} {tm mk kd par num ann rcv bod mc ml mb cd cb ce org co cr fn fe fp : Nat → Int32} {post : Int32 → Prop} {r n k : Nat} (hc : nc ≤ 32) (hr : r < nc) (hP : oc_Pa par nc) (hn : n < nc) (hk : k < 16) (ek : num n = nI k)
    (h1 : ∀ p : Nat, p < nc → oc_bo par kd bod r n k = (p : Int) → post (nI p)) (h0 : (∀ p : Nat, ¬ oc_bo par kd bod r n k = (p : Int)) → post (-1)) : wpX_binderOf post (nI NC, nI TC, nI tc, nI nc, fail, res, fl, nI us, nI ob, fc, val, tm, mk, kd, par, num, ann, rcv, bod, mc, ml, mb, cd, cb, ce, org, co, cr, fn, fe, fp) (nI n) (nI r) := by
  unfold wpX_binderOf
  refine ⟨vp_in_nI (by omega) (by omega), nm_r ?_ ⟨nc - n + 1, oc_xbl hc hr hP _ n k 0 hn hk (Nat.zero_le _) (by omega) h1 h0⟩⟩
  rw [nI_clamp (n := n) (by omega), ek]
theorem oc_bod {nc tc : Nat} {kd par num ann rcv bod mc ml mb : Nat → Int32} (N : oc_Nd nc tc kd par num ann rcv bod mc ml mb) {p n : Nat} (hp : p < nc) (hn : n < 2 ^ 31) (h : bod p = nI n) : kd p = 3 := by
  obtain ⟨-, ⟨k1, k2, -⟩ | ⟨k1, k2, -⟩ | ⟨k1, k2, -⟩ | ⟨k1, -⟩⟩ := N p hp
  · rw [k2] at h; exact absurd h (oc_m1' hn)
  · rw [k2] at h; exact absurd h (oc_m1' hn)
  · rw [k2] at h; exact absurd h (oc_m1' hn)
  · exact k1
theorem oc_xli {NC TC tc nc us ob : Nat} {fail res fl fc val : Int32} {tm mk kd par num ann rcv bod mc ml mb cd cb ce org co cr fn fe fp : Nat → Int32} {post : Int32 → Prop} {r n : Nat} (hc : nc ≤ 32) (hr : r < nc) (hP : oc_Pa par nc) (hn : n < nc) (h1 : oc_li par r n = true → post 1) (h0 : oc_li par r n = false → post 0) : wpX_liesIn post (nI NC, nI TC, nI tc, nI nc, fail, res, fl, nI us, nI ob, fc, val, tm, mk, kd, par, num, ann, rcv, bod, mc, ml, mb, cd, cb, ce, org, co, cr, fn, fe, fp) (nI n) (nI r) := by
  have key : ∀ f n i, n < nc → i ≤ n → nc - n + 1 < f → (oc_li par r n = true → post 1) → (oc_li par r n = false → post 0) → wX_liesIn_5 post (nI r) (nI NC) (nI TC) (nI tc) (nI nc) fail res fl (nI us) (nI ob) fc val tm mk kd par num ann rcv bod mc ml mb cd cb ce org co cr fn fe fp f (nI n) (nI i) := by
    intro f
    induction f with
    | zero => intro n i a1 a2 a3; omega
    | succ f ih =>
      intro n i a1 a2 a3 h1 h0
      refine br_f (nI_ge (b := 32) (by omega) (by omega)) (br_f (oc_m1 (by omega)) (pk_eq n r (fun e => h1 ?_) (fun e => ⟨vp_in_nI (by omega) (by omega), ?_⟩)))
      · rw [e]; exact oc_li_r _ _
      rw [nI_clamp (n := n) (by omega)]
      rcases hP n a1 with h | ⟨p, x1, x2, x3⟩
      · refine nm_r h (nm_r (nI_1 i) ?_)
        have q := h0 (oc_li_n h e)
        obtain ⟨g, rfl⟩ : ∃ g, f = g + 1 := ⟨f - 1, by omega⟩
        exact br_c (fun _ => q) (fun _ => br_t rfl q)
      · rw [oc_li_s x3 x1 (by omega) e] at h1 h0
        exact nm_r x3 (nm_r (nI_1 i) (ih p (i + 1) x2 (by omega) (by omega) h1 h0))
  exact ⟨nc - n + 2, key _ n 0 hn (Nat.zero_le _) (by omega) h1 h0⟩
def oc_Cl (nc : Nat) (par kd num bod : Nat → Int32) (r : Nat) : Prop := ∀ n, n < nc → kd n = 0 → ¬ oc_bo par kd bod r n (num n).toNatClampNeg = -1
theorem oc_var {nc tc : Nat} {kd par num ann rcv bod mc ml mb : Nat → Int32} (N : oc_Nd nc tc kd par num ann rcv bod mc ml mb) {n : Nat} (hn : n < nc) (h : kd n = 0) : ∃ k, k < 16 ∧ num n = nI k := by
  obtain ⟨-, ⟨k1, k2, k3⟩ | ⟨k1, -⟩ | ⟨k1, -⟩ | ⟨k1, -⟩⟩ := N n hn
  · exact k3
  · rw [h] at k1; exact absurd k1 (by decide)
  · rw [h] at k1; exact absurd k1 (by decide)
  · rw [h] at k1; exact absurd k1 (by decide)
theorem oc_xcl {NC TC tc nc us ob : Nat} {fail res fl fc val : Int32} {tm mk kd par num ann rcv bod mc ml mb cd cb ce org co cr fn fe fp : Nat → Int32} {post : Int32 → Prop} {r : Nat} (hc : nc ≤ 32) (hr : r < nc) (hN : oc_Nd nc tc kd par num ann rcv bod mc ml mb) (h1 : oc_Cl nc par kd num bod r → post 1) (h0 : ¬ oc_Cl nc par kd num bod r → post 0) : wpX_isClosed post (nI NC, nI TC, nI tc, nI nc, fail, res, fl, nI us, nI ob, fc, val, tm, mk, kd, par, num, ann, rcv, bod, mc, ml, mb, cd, cb, ce, org, co, cr, fn, fe, fp) (nI r) := by
  have hP := oc_Nd_Pa hN
  have key : ∀ d i, i + d = nc → (∀ n, n < i → kd n = 0 → ¬ oc_bo par kd bod r n (num n).toNatClampNeg = -1) → wX_isClosed_2 post (nI r) (nI NC) (nI TC) (nI tc) (nI nc) fail res fl (nI us) (nI ob) fc val tm mk kd par num ann rcv bod mc ml mb cd cb ce org co cr fn fe fp (d + 1) (nI i) := by
    intro d
    induction d with
    | zero =>
      intro i hi hq
      exact br_t (nI_le (by omega) (by omega)) (h1 fun n hn => hq n (by omega))
    | succ d ih =>
      intro i hi hq
      have nx : (kd i = 0 → ¬ oc_bo par kd bod r i (num i).toNatClampNeg = -1) → wX_isClosed_2 post (nI r) (nI NC) (nI TC) (nI tc) (nI nc) fail res fl (nI us) (nI ob) fc val tm mk kd par num ann rcv bod mc ml mb cd cb ce org co cr fn fe fp (d + 1) (nI (i + 1)) := fun w => ih (i + 1) (by omega) fun n hn => by
        by_cases e : n = i
        · rw [e]; exact w
        · exact hq n (by omega)
      refine br_f (nI_ge (by omega) (by omega)) ⟨vp_in_nI (by omega) (by omega), ?_⟩
      rw [nI_clamp (n := i) (by omega)]
      refine br_c (fun z => ?_) (fun z => nm_r (nI_1 i) (nx fun z' => absurd z' z))
      obtain ⟨k, hk, ek⟩ := oc_var hN (show i < nc by omega) z
      have ck : (num i).toNatClampNeg = k := by rw [ek, nI_clamp (by omega)]
      refine oc_xli hc hr hP (by omega) (fun hl => br_f oc_10 (oc_xbo hc hr hP (by omega) hk ek (fun p hp e => br_f (oc_m1 (by omega)) (nm_r (nI_1 i) (nx fun _ q => ?_))) (fun q => br_t rfl (h0 fun w => ?_)))) (fun hl => br_t rfl (nm_r (nI_1 i) (nx fun _ q => ?_)))
      · rw [ck, e] at q; omega
      · have w1 := w i (by omega) z
        rw [ck] at w1
        rcases oc_bo_3 (kd := kd) (bod := bod) (r := r) hP hc i (by omega) k with y | y | ⟨p, m, y1, y2, y3, y4⟩
        · exact w1 y
        · exact oc_bo_m2 hP hc i (by omega) k hl y
        · exact q p y3
      · have := oc_bo_li hP hc i (by omega) _ q
        rw [hl] at this
        exact absurd this (by decide)
  exact ⟨nc + 1, key nc 0 (by omega) fun n hn => absurd hn (Nat.not_lt_zero _)⟩
