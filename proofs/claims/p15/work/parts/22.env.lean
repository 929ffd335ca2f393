/-! environments that fit the binders above a node; ty: the type that an object was made with -/
def oc_ET (tm par kd bod ann co cr : Nat → Int32) (ty : Nat → Nat) (us ob r : Nat) (n : Nat) (e : Int32) : Prop :=
  if n = r then True
  else if h : n < (par n).toNatClampNeg ∧ (par n).toNatClampNeg < 32 then
    (if kd (par n).toNatClampNeg = 1 ∨ bod (par n).toNatClampNeg = nI n then
      ∃ c o, c < us ∧ e = nI c ∧ o < ob ∧ co c = nI o ∧ oc_sub tm (ty o) (ann (par n).toNatClampNeg).toNatClampNeg ∧ oc_ET tm par kd bod ann co cr ty us ob r (par n).toNatClampNeg (cr c)
    else oc_ET tm par kd bod ann co cr ty us ob r (par n).toNatClampNeg e)
  else True
termination_by 32 - n
decreasing_by all_goals omega
theorem oc_ET_r {tm par kd bod ann co cr : Nat → Int32} {ty : Nat → Nat} {us ob r : Nat} {e : Int32} : oc_ET tm par kd bod ann co cr ty us ob r r e := by
  rw [oc_ET, if_pos rfl]; trivial
theorem oc_ET_1 {tm par kd bod ann co cr : Nat → Int32} {ty : Nat → Nat} {us ob r n p : Nat} {e : Int32} (ep : par n = nI p) (h1 : n < p) (h2 : p < 32) (hr : n ≠ r) (b : kd p = 1 ∨ bod p = nI n) :
    oc_ET tm par kd bod ann co cr ty us ob r n e ↔ ∃ c o, c < us ∧ e = nI c ∧ o < ob ∧ co c = nI o ∧ oc_sub tm (ty o) (ann p).toNatClampNeg ∧ oc_ET tm par kd bod ann co cr ty us ob r p (cr c) := by
  have c := oc_cl ep h2
  rw [oc_ET, if_neg hr, dif_pos (by rw [c]; exact ⟨h1, h2⟩), c, if_pos b]
theorem oc_ET_2 {tm par kd bod ann co cr : Nat → Int32} {ty : Nat → Nat} {us ob r n p : Nat} {e : Int32} (ep : par n = nI p) (h1 : n < p) (h2 : p < 32) (hr : n ≠ r) (b : ¬ (kd p = 1 ∨ bod p = nI n)) :
    oc_ET tm par kd bod ann co cr ty us ob r n e ↔ oc_ET tm par kd bod ann co cr ty us ob r p e := by
  have c := oc_cl ep h2
  rw [oc_ET, if_neg hr, dif_pos (by rw [c]; exact ⟨h1, h2⟩), c, if_neg b]
theorem oc_ET_n {tm par kd bod ann co cr : Nat → Int32} {ty : Nat → Nat} {us ob r n : Nat} {e : Int32} (ep : par n = -1) : oc_ET tm par kd bod ann co cr ty us ob r n e := by
  have c := oc_cl1 ep
  by_cases hr : n = r
  · rw [hr]; exact oc_ET_r
  · rw [oc_ET, if_neg hr, dif_neg (by rw [c]; omega)]; trivial
theorem oc_ET_mo {tm par kd bod ann co cr co' cr' : Nat → Int32} {ty ty' : Nat → Nat} {us ob us' ob' r nc : Nat} (hP : oc_Pa par nc) (hc : nc ≤ 32) (h1 : us ≤ us') (h2 : ob ≤ ob') (h3 : ∀ c, c < us → co' c = co c ∧ cr' c = cr c) (h4 : ∀ o, o < ob → ty' o = ty o) :
    ∀ n, n < nc → ∀ e, oc_ET tm par kd bod ann co cr ty us ob r n e → oc_ET tm par kd bod ann co' cr' ty' us' ob' r n e := by
  refine oc_up fun n hn ih e h => ?_
  by_cases hr : n = r
  · rw [hr]; exact oc_ET_r
  rcases hP n hn with q | ⟨p, q1, q2, q3⟩
  · exact oc_ET_n q
  by_cases b : kd p = 1 ∨ bod p = nI n
  · obtain ⟨c, o, x1, x2, x3, x4, x5, x6⟩ := (oc_ET_1 q3 q1 (by omega) hr b).mp h
    refine (oc_ET_1 q3 q1 (by omega) hr b).mpr ⟨c, o, by omega, x2, by omega, by rw [(h3 c x1).1, x4], by rw [h4 o x3]; exact x5, ?_⟩
    rw [(h3 c x1).2]
    exact ih p q1 q2 _ x6
  · exact (oc_ET_2 q3 q1 (by omega) hr b).mpr (ih p q1 q2 _ ((oc_ET_2 q3 q1 (by omega) hr b).mp h))
/-- the k-th object of an environment -/
def oc_CH (co cr : Nat → Int32) (us ob o : Nat) : Nat → Int32 → Prop
  | 0, e => ∃ c, c < us ∧ e = nI c ∧ o < ob ∧ co c = nI o
  | k + 1, e => ∃ c, c < us ∧ e = nI c ∧ oc_CH co cr us ob o k (cr c)
theorem oc_ET_CH {tm par kd bod ann co cr : Nat → Int32} {ty : Nat → Nat} {us ob r nc : Nat} {p0 : Nat} (hP : oc_Pa par nc) (hc : nc ≤ 32) :
    ∀ n, n < nc → ∀ k e, oc_ET tm par kd bod ann co cr ty us ob r n e → oc_bo par kd bod r n k = (p0 : Int) → ∃ o, o < ob ∧ oc_CH co cr us ob o k e ∧ oc_sub tm (ty o) (ann p0).toNatClampNeg := by
  refine oc_up fun n hn ih k e h hb => ?_
  by_cases hr : n = r
  · rw [hr, oc_bo_r] at hb; omega
  rcases hP n hn with q | ⟨p, q1, q2, q3⟩
  · rw [oc_bo_n q hr] at hb; omega
  by_cases b : kd p = 1 ∨ bod p = nI n
  · obtain ⟨c, o, x1, x2, x3, x4, x5, x6⟩ := (oc_ET_1 q3 q1 (by omega) hr b).mp h
    cases k with
    | zero =>
      rw [oc_bo_0 q3 q1 (by omega) hr b] at hb
      have : p = p0 := by omega
      subst this
      exact ⟨o, x3, ⟨c, x1, x2, x3, x4⟩, x5⟩
    | succ k =>
      rw [oc_bo_1 q3 q1 (by omega) hr b] at hb
      obtain ⟨o', y1, y2, y3⟩ := ih p q1 q2 k _ x6 hb
      exact ⟨o', y1, ⟨c, x1, x2, y2⟩, y3⟩
  · rw [oc_bo_2 q3 q1 (by omega) hr b] at hb
    exact ih p q1 q2 k e ((oc_ET_2 q3 q1 (by omega) hr b).mp h) hb
/-! objects, frames, the typed machine -/
def oc_TO (tc nc us ob : Nat) (tm par kd bod ann co cr cb ce rt : Nat → Int32) (ty : Nat → Nat) (r : Nat) : Prop :=
  ∀ o, o < ob → ty o < tc ∧ ¬ ty o = 0 ∧ ∀ l, l < 16 → ∀ m', m' < tc → tm (ty o * 16 + l) = nI m' → ∃ b p u, b < p ∧ p < nc ∧ par b = nI p ∧ oc_li par r p = true ∧ (kd p = 1 ∨ bod p = nI b) ∧ cb (o * 16 + l) = nI b ∧
    u < tc ∧ rt b = nI u ∧ oc_sub tm u m' ∧ oc_sub tm (ty o) (ann p).toNatClampNeg ∧ oc_ET tm par kd bod ann co cr ty us ob r p (ce (o * 16 + l))
/-- the type that the frame at j - 1 awaits -/
def oc_ex (rt rcv fn fp : Nat → Int32) (r : Nat) : Nat → Nat
  | 0 => (rt r).toNatClampNeg
  | j + 1 => if fp j = 1 then (rt (rcv (fn j).toNatClampNeg).toNatClampNeg).toNatClampNeg else (rt (fn j).toNatClampNeg).toNatClampNeg
theorem oc_ex_s {rt rcv fn fp : Nat → Int32} {r j : Nat} : oc_ex rt rcv fn fp r (j + 1) = if fp j = 1 then (rt (rcv (fn j).toNatClampNeg).toNatClampNeg).toNatClampNeg else (rt (fn j).toNatClampNeg).toNatClampNeg := rfl
theorem oc_ex_0 {rt rcv fn fp : Nat → Int32} {r : Nat} : oc_ex rt rcv fn fp r 0 = (rt r).toNatClampNeg := rfl
def oc_TF (nc us ob fc : Nat) (tm par kd bod ann rcv co cr rt fn fe fp : Nat → Int32) (ty : Nat → Nat) (r : Nat) : Prop :=
  ∀ j, j < fc → ∃ n, n < nc ∧ oc_li par r n = true ∧ fn j = nI n ∧ oc_ET tm par kd bod ann co cr ty us ob r n (fe j) ∧ oc_sub tm (rt n).toNatClampNeg (oc_ex rt rcv fn fp r j) ∧
    ((fp j = 0 ∧ j + 1 = fc) ∨ (fp j = 1 ∧ (kd n = 2 ∨ kd n = 3)) ∨ (fp j = 2 ∧ kd n = 2))
def oc_TM (tc nc r F : Nat) (tm par kd bod ann rcv rt : Nat → Int32) (us ob fc : Nat) (val : Int32) (cb ce co cr fn fe fp : Nat → Int32) (ty : Nat → Nat) : Prop :=
  us ≤ F ∧ ob ≤ 32 ∧ fc ≤ 48 ∧ oc_TO tc nc us ob tm par kd bod ann co cr cb ce rt ty r ∧ oc_TF nc us ob fc tm par kd bod ann rcv co cr rt fn fe fp ty r ∧
  ((∃ q, fc = q + 1 ∧ fp q = 0) ∨ ∃ o, o < ob ∧ val = nI o ∧ oc_sub tm (ty o) (oc_ex rt rcv fn fp r fc))
theorem oc_ex_cg {rt rcv fn fp fn' fp' : Nat → Int32} {r : Nat} : ∀ j, (∀ i, i + 1 = j → fn' i = fn i ∧ fp' i = fp i) → oc_ex rt rcv fn' fp' r j = oc_ex rt rcv fn fp r j
  | 0, _ => rfl
  | j + 1, h => by
    obtain ⟨a, b⟩ := h j rfl
    rw [oc_ex_s, oc_ex_s, a, b]
theorem oc_TM_pop {tc nc r F : Nat} {tm par kd bod ann rcv rt : Nat → Int32} {us ob ob' q n o : Nat} {val : Int32} {cb ce co cr fn fe fp cb' ce' : Nat → Int32} {ty ty' : Nat → Nat} (hP : oc_Pa par nc) (hc : nc ≤ 32)
    (h : oc_TM tc nc r F tm par kd bod ann rcv rt us ob (q + 1) val cb ce co cr fn fe fp ty) (h1 : ob ≤ ob') (h2 : ob' ≤ 32) (h4 : ∀ o, o < ob → ty' o = ty o) (hO : oc_TO tc nc us ob' tm par kd bod ann co cr cb' ce' rt ty' r) (ho : o < ob')
    (hn : n < nc) (en : fn q = nI n) (hs : oc_sub tm (ty' o) (rt n).toNatClampNeg) :
    oc_TM tc nc r F tm par kd bod ann rcv rt us ob' q (nI o) cb' ce' co cr fn fe fp ty' := by
  obtain ⟨a1, a2, a3, a4, a5, a6⟩ := h
  refine ⟨a1, h2, by omega, hO, fun j hj => ?_, Or.inr ⟨o, ho, rfl, ?_⟩⟩
  · obtain ⟨n', w1, w2, w3, w4, w5, w6⟩ := a5 j (by omega)
    refine ⟨n', w1, w2, w3, oc_ET_mo hP hc (Nat.le_refl _) h1 (fun _ _ => ⟨rfl, rfl⟩) h4 n' w1 _ w4, w5, ?_⟩
    rcases w6 with ⟨-, y⟩ | y
    · omega
    · exact Or.inr y
  · obtain ⟨n', w1, w2, w3, w4, w5, w6⟩ := a5 q (by omega)
    have : n' = n := by
      rw [en, nI_eq (by omega) (by omega)] at w3
      exact w3.symm
    subst this
    exact oc_sub_tr hs w5
theorem oc_TO_mo {tc nc us us' ob r : Nat} {tm par kd bod ann co cr co' cr' cb ce rt : Nat → Int32} {ty : Nat → Nat} (hP : oc_Pa par nc) (hc : nc ≤ 32) (h1 : us ≤ us') (h3 : ∀ c, c < us → co' c = co c ∧ cr' c = cr c) (h : oc_TO tc nc us ob tm par kd bod ann co cr cb ce rt ty r) : oc_TO tc nc us' ob tm par kd bod ann co' cr' cb ce rt ty r := fun o ho => by
  obtain ⟨a1, a2, a3⟩ := h o ho
  refine ⟨a1, a2, fun l hl m' hm em => ?_⟩
  obtain ⟨b, p, u, x1, x2, x3, x4, x5, x6, x7, x8, x9, x10, x11⟩ := a3 l hl m' hm em
  exact ⟨b, p, u, x1, x2, x3, x4, x5, x6, x7, x8, x9, x10, oc_ET_mo hP hc h1 (Nat.le_refl _) h3 (fun _ _ => rfl) p x2 _ x11⟩
theorem oc_TM_push {tc nc r F : Nat} {tm par kd bod ann rcv rt : Nat → Int32} {us us' ob q n n' : Nat} {val e' ph : Int32} {cb ce co cr co' cr' fn fe fp : Nat → Int32} {ty : Nat → Nat} (hP : oc_Pa par nc) (hc : nc ≤ 32)
    (h : oc_TM tc nc r F tm par kd bod ann rcv rt us ob (q + 1) val cb ce co cr fn fe fp ty) (hq : q + 1 < 48) (h1 : us ≤ us') (h2 : us' ≤ F) (h3 : ∀ c, c < us → co' c = co c ∧ cr' c = cr c)
    (hn : n < nc) (en : fn q = nI n) (hph : (ph = 1 ∧ (kd n = 2 ∨ kd n = 3)) ∨ (ph = 2 ∧ kd n = 2)) (hn' : n' < nc) (hl : oc_li par r n' = true) (hE : oc_ET tm par kd bod ann co' cr' ty us' ob r n' e')
    (hs1 : ph = 1 → oc_sub tm (rt n').toNatClampNeg (rt (rcv n).toNatClampNeg).toNatClampNeg) (hs2 : ¬ ph = 1 → oc_sub tm (rt n').toNatClampNeg (rt n).toNatClampNeg) :
    oc_TM tc nc r F tm par kd bod ann rcv rt us' ob (q + 2) val cb ce co' cr' (upd fn (q + 1) (nI n')) (upd fe (q + 1) e') (upd (upd fp q ph) (q + 1) 0) ty := by
  obtain ⟨a1, a2, a3, a4, a5, a6⟩ := h
  refine ⟨h2, a2, by omega, oc_TO_mo hP hc h1 h3 a4, fun j hj => ?_, Or.inl ⟨q + 1, rfl, pk_us⟩⟩
  by_cases z : j = q + 1
  · subst z
    refine ⟨n', hn', hl, pk_us, ?_, ?_, Or.inl ⟨pk_us, rfl⟩⟩
    · rw [pk_us]; exact hE
    · rw [oc_ex_s, pk_un (show q ≠ q + 1 by omega), pk_us, pk_un (show q ≠ q + 1 by omega), en, nI_clamp (by omega)]
      by_cases y : ph = 1
      · rw [if_pos y]; exact hs1 y
      · rw [if_neg y]; exact hs2 y
  · obtain ⟨n0, w1, w2, w3, w4, w5, w6⟩ := a5 j (by omega)
    refine ⟨n0, w1, w2, ?_, ?_, ?_, ?_⟩
    · rw [pk_un z]; exact w3
    · rw [pk_un z]; exact oc_ET_mo hP hc h1 (Nat.le_refl _) h3 (fun _ _ => rfl) n0 w1 _ w4
    · rw [oc_ex_cg j fun i hi => ⟨pk_un (by omega), by rw [pk_un (by omega), pk_un (by omega)]⟩]
      exact w5
    · rw [pk_un z]
      by_cases y : j = q
      · subst y
        rw [pk_us]
        have e0 : n0 = n := by
          rw [en, nI_eq (by omega) (by omega)] at w3
          exact w3.symm
        rw [e0]
        rcases hph with x | x
        · exact Or.inr (Or.inl x)
        · exact Or.inr (Or.inr x)
      · rw [pk_un y]
        rcases w6 with ⟨-, x⟩ | x
        · omega
        · exact Or.inr x
/-! new objects keep their types -/
def oc_tyU (ty : Nat → Nat) (k t : Nat) : Nat → Nat := fun o => if o = k then t else ty o
theorem oc_tyU_lo {ty : Nat → Nat} {k t o : Nat} (h : o < k) : oc_tyU ty k t o = ty o := if_neg (by omega)
theorem oc_tyU_at {ty : Nat → Nat} {k t : Nat} : oc_tyU ty k t k = t := if_pos rfl
theorem oc_mt_v {ml f g : Nat → Int32} {o n l i0 : Nat} (e : (ml (n * 8 + i0)).toNatClampNeg = l) : ∀ m, i0 < m → (∀ i, i < m → i ≠ i0 → ¬ (ml (n * 8 + i)).toNatClampNeg = l) → oc_mt f ml g o n m (o * 16 + l) = g (n * 8 + i0)
  | 0, h, _ => absurd h (Nat.not_lt_zero _)
  | m + 1, h, hd => by
    rw [oc_mt]
    by_cases z : m = i0
    · rw [z, e, pk_us]
    · have := hd m (by omega) z
      rw [pk_un (by omega)]
      exact oc_mt_v e m (by omega) fun i hi ne => hd i (by omega) ne
theorem oc_TO_obj {tc nc us ob r n A m : Nat} {tm par kd num rcv bod ann mc ml mb co cr cb ce rt : Nat → Int32} {ty : Nat → Nat} {e : Int32} (hc : nc ≤ 32) (htc : tc ≤ 32) (hP : oc_Pa par nc) (hn : n < nc) (hl : oc_li par r n = true) (hk : kd n = 1)
    (hA : A < tc) (hA0 : ¬ A = 0) (eA : ann n = nI A) (hm : mc n = nI m) (hm8 : m ≤ 8) (L : oc_LM tm mc ml n A) (hd : ∀ i j, i < m → j < m → ml (n * 8 + i) = ml (n * 8 + j) → i = j)
    (hb : ∀ i, i < m → ∃ l b u m', l < 16 ∧ ml (n * 8 + i) = nI l ∧ b < n ∧ mb (n * 8 + i) = nI b ∧ par b = nI n ∧ u < tc ∧ rt b = nI u ∧ m' < tc ∧ tm (A * 16 + l) = nI m' ∧ oc_sub tm u m')
    (hE : oc_ET tm par kd bod ann co cr ty us ob r n e) (h : oc_TO tc nc us ob tm par kd bod ann co cr cb ce rt ty r) :
    oc_TO tc nc us (ob + 1) tm par kd bod ann co cr (oc_mt (oc_fi cb ob (-1) 16) ml mb ob n m) (oc_mt ce ml (fun _ => e) ob n m) rt (oc_tyU ty ob A) r := fun o ho => by
  by_cases z : o = ob
  · subst z
    rw [oc_tyU_at]
    refine ⟨hA, hA0, fun l hl' m' hm' em => ?_⟩
    obtain ⟨i, i1, i2⟩ := oc_lab hm hm8 L (fun i hi => by
      obtain ⟨l, b, u, m', y1, y2, -⟩ := hb i hi
      exact ⟨l, y1, y2⟩) hd l hl' (by rw [em]; exact oc_m1 (by omega))
    have ci : (ml (n * 8 + i)).toNatClampNeg = l := by rw [i2, nI_clamp (by omega)]
    have un : ∀ j, j < m → j ≠ i → ¬ (ml (n * 8 + j)).toNatClampNeg = l := fun j hj ne q => by
      obtain ⟨l', b, u, m'', y1, y2, -⟩ := hb j hj
      rw [y2, nI_clamp (by omega)] at q
      exact ne (hd j i hj i1 (by rw [y2, i2, q]))
    rw [oc_mt_v ci m i1 un, oc_mt_v ci m i1 un]
    obtain ⟨l', b, u, m'', y1, y2, y3, y4, y5, y6, y7, y8, y9, y10⟩ := hb i i1
    have el : l' = l := by
      rw [y2, nI_eq (by omega) (by omega)] at i2
      exact i2
    subst el
    have em' : m'' = m' := by
      rw [em, nI_eq (by omega) (by omega)] at y9
      exact y9.symm
    subst em'
    refine ⟨b, n, u, y3, hn, y5, hl, Or.inl hk, y4, y6, y7, y10, ?_, ?_⟩
    · rw [eA, nI_clamp (by omega)]; exact Or.inl rfl
    · exact oc_ET_mo hP hc (Nat.le_refl _) (by omega) (fun _ _ => ⟨rfl, rfl⟩) (fun o ho => oc_tyU_lo ho) n hn _ hE
  · have ho' : o < ob := by omega
    rw [oc_tyU_lo ho']
    obtain ⟨a1, a2, a3⟩ := h o ho'
    refine ⟨a1, a2, fun l hl' m' hm' em => ?_⟩
    obtain ⟨b, p, u, x1, x2, x3, x4, x5, x6, x7, x8, x9, x10, x11⟩ := a3 l hl' m' hm' em
    have lo : o * 16 + l < ob * 16 := by omega
    rw [oc_mt_lo m _ lo, oc_mt_lo m _ lo, oc_fi_lo 16 _ lo]
    exact ⟨b, p, u, x1, x2, x3, x4, x5, x6, x7, x8, x9, x10, oc_ET_mo hP hc (Nat.le_refl _) (by omega) (fun _ _ => ⟨rfl, rfl⟩) (fun o ho => oc_tyU_lo ho) p x2 _ x11⟩
theorem oc_TO_upd {tc nc us ob r n A l0 b0 u0 v m0 : Nat} {tm par kd bod ann co cr cb ce rt : Nat → Int32} {ty : Nat → Nat} {e : Int32} (hc : nc ≤ 32) (htc : tc ≤ 32) (hP : oc_Pa par nc) (hn : n < nc) (hl : oc_li par r n = true)
    (hb : b0 < n) (eb : bod n = nI b0) (pb : par b0 = nI n) (hv : v < ob) (hl0 : l0 < 16) (eA : ann n = nI A) (hA : A < tc) (hs : oc_sub tm (ty v) A) (hu : u0 < tc) (eu : rt b0 = nI u0) (hm0 : m0 < tc) (em0 : tm (ty v * 16 + l0) = nI m0) (hsu : oc_sub tm u0 m0)
    (hE : oc_ET tm par kd bod ann co cr ty us ob r n e) (h : oc_TO tc nc us ob tm par kd bod ann co cr cb ce rt ty r) :
    oc_TO tc nc us (ob + 1) tm par kd bod ann co cr (upd (oc_tc cb v ob 16) (ob * 16 + l0) (nI b0)) (upd (oc_tc ce v ob 16) (ob * 16 + l0) e) rt (oc_tyU ty ob (ty v)) r := fun o ho => by
  have mo : ∀ p, p < nc → ∀ e, oc_ET tm par kd bod ann co cr ty us ob r p e → oc_ET tm par kd bod ann co cr (oc_tyU ty ob (ty v)) us (ob + 1) r p e := oc_ET_mo hP hc (Nat.le_refl _) (by omega) (fun _ _ => ⟨rfl, rfl⟩) (fun o ho => oc_tyU_lo ho)
  by_cases z : o = ob
  · subst z
    rw [oc_tyU_at]
    obtain ⟨a1, a2, a3⟩ := h v hv
    refine ⟨a1, a2, fun l hl' m' hm' em => ?_⟩
    by_cases y : l = l0
    · subst y
      have : m' = m0 := by
        rw [em, nI_eq (by omega) (by omega)] at em0
        exact em0
      subst this
      rw [pk_us, pk_us]
      refine ⟨b0, n, u0, hb, hn, pb, hl, Or.inr eb, rfl, hu, eu, hsu, ?_, mo n hn _ hE⟩
      rw [eA, nI_clamp (by omega)]; exact hs
    · obtain ⟨b, p, u, x1, x2, x3, x4, x5, x6, x7, x8, x9, x10, x11⟩ := a3 l hl' m' hm' em
      rw [pk_un (by omega), pk_un (by omega), oc_tc_hi hv 16 l hl' (Nat.le_refl _), oc_tc_hi hv 16 l hl' (Nat.le_refl _)]
      exact ⟨b, p, u, x1, x2, x3, x4, x5, x6, x7, x8, x9, x10, mo p x2 _ x11⟩
  · have ho' : o < ob := by omega
    rw [oc_tyU_lo ho']
    obtain ⟨a1, a2, a3⟩ := h o ho'
    refine ⟨a1, a2, fun l hl' m' hm' em => ?_⟩
    obtain ⟨b, p, u, x1, x2, x3, x4, x5, x6, x7, x8, x9, x10, x11⟩ := a3 l hl' m' hm' em
    have lo : o * 16 + l < ob * 16 := by omega
    rw [pk_un (by omega), pk_un (by omega), oc_tc_lo 16 _ lo, oc_tc_lo 16 _ lo]
    exact ⟨b, p, u, x1, x2, x3, x4, x5, x6, x7, x8, x9, x10, mo p x2 _ x11⟩
