/-! the machine: environments, objects, frames -/
def oc_En (co cr : Nat → Int32) (us ob : Nat) : Nat → Int32 → Prop
  | 0, _ => True
  | d + 1, e => ∃ c o, c < us ∧ e = nI c ∧ o < ob ∧ co c = nI o ∧ oc_En co cr us ob d (cr c)
theorem oc_En_mo {co cr co' cr' : Nat → Int32} {us ob us' ob' : Nat} (h1 : us ≤ us') (h2 : ob ≤ ob') (h3 : ∀ c, c < us → co' c = co c ∧ cr' c = cr c) : ∀ d e, oc_En co cr us ob d e → oc_En co' cr' us' ob' d e
  | 0, _, _ => trivial
  | d + 1, e, ⟨c, o, x1, x2, x3, x4, x5⟩ => ⟨c, o, by omega, x2, by omega, by rw [(h3 c x1).1, x4], by rw [(h3 c x1).2]; exact oc_En_mo h1 h2 h3 d _ x5⟩
def oc_Ob (nc us ob : Nat) (par kd bod co cr cb ce oe : Nat → Int32) (r : Nat) : Prop :=
  ∀ o l, o < ob → l < 16 → cb (o * 16 + l) = -1 ∨ ∃ b d, b < nc ∧ oc_li par r b = true ∧ cb (o * 16 + l) = nI b ∧ oc_dp par kd bod r b = d + 1 ∧ oc_En co cr us ob d (ce (o * 16 + l)) ∧ oe (o * 16 + l) = ce (o * 16 + l)
def oc_Fr (nc us ob fc : Nat) (par kd bod co cr fn fe fp gn ge gd gs : Nat → Int32) (r : Nat) : Prop :=
  ∀ j, j < fc → ∃ n, n < nc ∧ oc_li par r n = true ∧ fn j = nI n ∧ gn j = nI n ∧ oc_En co cr us ob (oc_dp par kd bod r n) (fe j) ∧ ge j = fe j ∧ gd j = nI (j + 1) ∧ gs j = fp j ∧
    ((fp j = 0 ∧ j + 1 = fc) ∨ (fp j = 1 ∧ (kd n = 2 ∨ kd n = 3)) ∨ (fp j = 2 ∧ kd n = 2))
theorem oc_Ob_mo {nc us ob us' ob' : Nat} {par kd bod co cr co' cr' cb ce oe : Nat → Int32} {r : Nat} (h1 : us ≤ us') (h2 : ob ≤ ob') (h3 : ∀ c, c < us → co' c = co c ∧ cr' c = cr c) (h : oc_Ob nc us ob par kd bod co cr cb ce oe r) :
    ∀ o l, o < ob → l < 16 → cb (o * 16 + l) = -1 ∨ ∃ b d, b < nc ∧ oc_li par r b = true ∧ cb (o * 16 + l) = nI b ∧ oc_dp par kd bod r b = d + 1 ∧ oc_En co' cr' us' ob' d (ce (o * 16 + l)) ∧ oe (o * 16 + l) = ce (o * 16 + l) := fun o l ho hl => by
  rcases h o l ho hl with w | ⟨b, d, w1, w2, w3, w4, w5, w6⟩
  · exact Or.inl w
  · exact Or.inr ⟨b, d, w1, w2, w3, w4, oc_En_mo h1 h2 h3 d _ w5, w6⟩
theorem oc_Fr_mo {nc us ob us' ob' fc : Nat} {par kd bod co cr co' cr' fn fe fp gn ge gd gs : Nat → Int32} {r : Nat} (h1 : us ≤ us') (h2 : ob ≤ ob') (h3 : ∀ c, c < us → co' c = co c ∧ cr' c = cr c) (h : oc_Fr nc us ob fc par kd bod co cr fn fe fp gn ge gd gs r) :
    oc_Fr nc us' ob' fc par kd bod co' cr' fn fe fp gn ge gd gs r := fun j hj => by
  obtain ⟨n, w1, w2, w3, w4, w5, w6⟩ := h j hj
  exact ⟨n, w1, w2, w3, w4, oc_En_mo h1 h2 h3 _ _ w5, w6⟩
def oc_MM (nc r F : Nat) (par kd bod : Nat → Int32) (us ob fc : Nat) (val ret : Int32) (cb ce oe co cr fn fe fp gn ge gd gs : Nat → Int32) : Prop :=
  us ≤ F ∧ ob ≤ 32 ∧ fc ≤ 48 ∧ oc_Ob nc us ob par kd bod co cr cb ce oe r ∧ oc_Fr nc us ob fc par kd bod co cr fn fe fp gn ge gd gs r ∧
  ((∃ q, fc = q + 1 ∧ fp q = 0) ∨ ∃ o, o < ob ∧ val = nI o ∧ ret = nI o)
def oc_wt (fn fp : Nat → Int32) (j : Nat) : Nat := if fp j = 0 then 3 * (fn j).toNatClampNeg + 3 else if fp j = 1 then 2 else 1
def oc_Ph (F us fc : Nat) (fn fp : Nat → Int32) : Nat := (F - us) * 96 + oc_sm (oc_wt fn fp) fc
theorem oc_MM_pop {nc r F : Nat} {par kd bod : Nat → Int32} {us ob ob' q o : Nat} {val ret : Int32} {cb ce oe co cr fn fe fp gn ge gd gs cb' ce' oe' : Nat → Int32}
    (h : oc_MM nc r F par kd bod us ob (q + 1) val ret cb ce oe co cr fn fe fp gn ge gd gs) (h1 : ob ≤ ob') (h2 : ob' ≤ 32) (hO : oc_Ob nc us ob' par kd bod co cr cb' ce' oe' r) (ho : o < ob') :
    oc_MM nc r F par kd bod us ob' q (nI o) (nI o) cb' ce' oe' co cr fn fe fp gn ge gd gs := by
  obtain ⟨a1, a2, a3, a4, a5, a6⟩ := h
  refine ⟨a1, h2, by omega, hO, fun j hj => ?_, Or.inr ⟨o, ho, rfl, rfl⟩⟩
  obtain ⟨n, w1, w2, w3, w4, w5, w6, w7, w8, w9⟩ := a5 j (by omega)
  refine ⟨n, w1, w2, w3, w4, oc_En_mo (Nat.le_refl _) h1 (fun _ _ => ⟨rfl, rfl⟩) _ _ w5, w6, w7, w8, ?_⟩
  rcases w9 with ⟨-, y⟩ | y
  · omega
  · exact Or.inr y
theorem oc_MM_push {nc r F : Nat} {par kd bod : Nat → Int32} {us us' ob q n n' : Nat} {val ret e' ph : Int32} {cb ce oe co cr co' cr' fn fe fp gn ge gd gs : Nat → Int32}
    (h : oc_MM nc r F par kd bod us ob (q + 1) val ret cb ce oe co cr fn fe fp gn ge gd gs) (hnc : nc ≤ 32) (hq : q + 1 < 48) (h1 : us ≤ us') (h2 : us' ≤ F) (h3 : ∀ c, c < us → co' c = co c ∧ cr' c = cr c)
    (hn : n < nc) (en : fn q = nI n) (hph : (ph = 1 ∧ (kd n = 2 ∨ kd n = 3)) ∨ (ph = 2 ∧ kd n = 2)) (hn' : n' < nc) (hl : oc_li par r n' = true) (hE : oc_En co' cr' us' ob (oc_dp par kd bod r n') e') :
    oc_MM nc r F par kd bod us' ob (q + 2) val ret cb ce oe co' cr' (upd fn (q + 1) (nI n')) (upd fe (q + 1) e') (upd (upd fp q ph) (q + 1) 0) (upd gn (q + 1) (nI n')) (upd ge (q + 1) e') (upd gd (q + 1) (nI (q + 2))) (upd (upd gs q ph) (q + 1) 0) := by
  obtain ⟨a1, a2, a3, a4, a5, a6⟩ := h
  refine ⟨h2, a2, by omega, oc_Ob_mo h1 (Nat.le_refl _) h3 a4, fun j hj => ?_, Or.inl ⟨q + 1, rfl, pk_us⟩⟩
  by_cases z : j = q + 1
  · subst z
    refine ⟨n', hn', hl, pk_us, pk_us, ?_, ?_, pk_us, ?_, Or.inl ⟨pk_us, rfl⟩⟩
    · rw [pk_us]; exact hE
    · rw [pk_us, pk_us]
    · rw [pk_us, pk_us]
  · obtain ⟨n0, w1, w2, w3, w4, w5, w6, w7, w8, w9⟩ := a5 j (by omega)
    refine ⟨n0, w1, w2, ?_, ?_, ?_, ?_, ?_, ?_, ?_⟩
    · rw [pk_un z]; exact w3
    · rw [pk_un z]; exact w4
    · rw [pk_un z]; exact oc_En_mo h1 (Nat.le_refl _) h3 _ _ w5
    · rw [pk_un z, pk_un z]; exact w6
    · rw [pk_un z]; exact w7
    · rw [pk_un z, pk_un z]
      by_cases y : j = q
      · rw [y, pk_us, pk_us]
      · rw [pk_un y, pk_un y]; exact w8
    · rw [pk_un z]
      by_cases y : j = q
      · subst y
        rw [pk_us]
        have e0 : n0 = n := by
          rw [w3, nI_eq (by omega) (by omega)] at en
          exact en
        rw [e0]
        rcases hph with x | x
        · exact Or.inr (Or.inl x)
        · exact Or.inr (Or.inr x)
      · rw [pk_un y]
        rcases w9 with ⟨-, x⟩ | x
        · omega
        · exact Or.inr x
theorem oc_wt_pos (fn fp : Nat → Int32) (j : Nat) : 1 ≤ oc_wt fn fp j := by
  unfold oc_wt
  split
  · omega
  · split <;> omega
theorem oc_Ph_pop {F us q : Nat} {fn fp : Nat → Int32} : oc_Ph F us q fn fp < oc_Ph F us (q + 1) fn fp := by
  have := oc_wt_pos fn fp q
  unfold oc_Ph
  rw [oc_sm]
  omega
theorem oc_Ph_push {F us us' q n' : Nat} {ph : Int32} {fn fp : Nat → Int32} (hn' : n' < 2 ^ 31) (h : (F - us') * 96 + (if ph = 0 then 3 * (fn q).toNatClampNeg + 3 else if ph = 1 then 2 else 1) + (3 * n' + 3) < (F - us) * 96 + oc_wt fn fp q) :
    oc_Ph F us' (q + 2) (upd fn (q + 1) (nI n')) (upd (upd fp q ph) (q + 1) 0) < oc_Ph F us (q + 1) fn fp := by
  unfold oc_Ph
  rw [oc_sm, oc_sm, oc_sm]
  have e1 : oc_sm (oc_wt (upd fn (q + 1) (nI n')) (upd (upd fp q ph) (q + 1) 0)) q = oc_sm (oc_wt fn fp) q := oc_sm_cg q fun i hi => by
    unfold oc_wt
    rw [pk_un (show i ≠ q + 1 by omega), pk_un (show i ≠ q + 1 by omega), pk_un (show i ≠ q by omega)]
  have e2 : oc_wt (upd fn (q + 1) (nI n')) (upd (upd fp q ph) (q + 1) 0) q = (if ph = 0 then 3 * (fn q).toNatClampNeg + 3 else if ph = 1 then 2 else 1) := by
    unfold oc_wt
    rw [pk_un (show q ≠ q + 1 by omega), pk_un (show q ≠ q + 1 by omega), pk_us]
  have e3 : oc_wt (upd fn (q + 1) (nI n')) (upd (upd fp q ph) (q + 1) 0) (q + 1) = 3 * n' + 3 := by
    unfold oc_wt
    rw [pk_us, pk_us, if_pos rfl, nI_clamp hn']
  rw [e1, e2, e3]
  omega
theorem oc_kid {nc tc : Nat} {kd par num ann rcv bod mc ml mb : Nat → Int32} {r n c : Nat} (hc : nc ≤ 32) (N : oc_Nd nc tc kd par num ann rcv bod mc ml mb) (hn : n < nc) (hl : oc_li par r n = true) (h1 : c < n) (h2 : par c = nI n) :
    oc_li par r c = true ∧ (kd n = 1 ∨ bod n = nI c → oc_dp par kd bod r c = oc_dp par kd bod r n + 1) ∧ (¬ (kd n = 1 ∨ bod n = nI c) → oc_dp par kd bod r c = oc_dp par kd bod r n) := by
  have le := oc_li_le (oc_Nd_Pa N) hc n hn hl
  refine ⟨?_, fun h => oc_dp_1 h2 h1 (by omega) (by omega) h, fun h => oc_dp_2 h2 h1 (by omega) (by omega) h⟩
  rw [oc_li_s h2 h1 (by omega) (by omega)]
  exact hl
/-! what the loops of a new object leave -/
def oc_fi (f : Nat → Int32) (o : Nat) (x : Int32) : Nat → Nat → Int32
  | 0 => f
  | l + 1 => upd (oc_fi f o x l) (o * 16 + l) x
theorem oc_fi_lo {f : Nat → Int32} {o : Nat} {x : Int32} : ∀ l j, j < o * 16 → oc_fi f o x l j = f j
  | 0, _, _ => rfl
  | l + 1, j, h => by rw [oc_fi, pk_un (by omega), oc_fi_lo l j h]
theorem oc_fi_hi {f : Nat → Int32} {o : Nat} {x : Int32} : ∀ l j, j < l → oc_fi f o x l (o * 16 + j) = x
  | 0, _, h1 => absurd h1 (Nat.not_lt_zero _)
  | l + 1, j, h1 => by
    rw [oc_fi]
    by_cases e : j = l
    · rw [e, pk_us]
    · rw [pk_un (by omega)]
      exact oc_fi_hi l j (by omega)
def oc_mt (f ml g : Nat → Int32) (o n : Nat) : Nat → Nat → Int32
  | 0 => f
  | i + 1 => upd (oc_mt f ml g o n i) (o * 16 + (ml (n * 8 + i)).toNatClampNeg) (g (n * 8 + i))
theorem oc_mt_lo {f ml g : Nat → Int32} {o n : Nat} : ∀ i j, j < o * 16 → oc_mt f ml g o n i j = f j
  | 0, _, _ => rfl
  | i + 1, j, h => by rw [oc_mt, pk_un (by omega), oc_mt_lo i j h]
theorem oc_mt_at (ml : Nat → Int32) (o n l : Nat) : ∀ i, (∀ f g : Nat → Int32, oc_mt f ml g o n i (o * 16 + l) = f (o * 16 + l)) ∨ ∃ i', i' < i ∧ ∀ f g : Nat → Int32, oc_mt f ml g o n i (o * 16 + l) = g (n * 8 + i')
  | 0 => Or.inl fun _ _ => rfl
  | i + 1 => by
    by_cases e : l = (ml (n * 8 + i)).toNatClampNeg
    · exact Or.inr ⟨i, by omega, fun f g => by rw [oc_mt, ← e, pk_us]⟩
    · rcases oc_mt_at ml o n l i with h | ⟨i', h1, h2⟩
      · exact Or.inl fun f g => by rw [oc_mt, pk_un (by omega)]; exact h f g
      · exact Or.inr ⟨i', by omega, fun f g => by rw [oc_mt, pk_un (by omega)]; exact h2 f g⟩
theorem oc_Ob_obj {nc tc us ob : Nat} {kd par num ann rcv bod mc ml mb co cr cb ce oe : Nat → Int32} {r n m : Nat} {e : Int32} (hc : nc ≤ 32) (N : oc_Nd nc tc kd par num ann rcv bod mc ml mb) (hn : n < nc) (hl : oc_li par r n = true) (hk : kd n = 1) (hm : mc n = nI m) (hm8 : m ≤ 8)
    (hE : oc_En co cr us ob (oc_dp par kd bod r n) e) (h : oc_Ob nc us ob par kd bod co cr cb ce oe r) :
    oc_Ob nc us (ob + 1) par kd bod co cr (oc_mt (oc_fi cb ob (-1) 16) ml mb ob n m) (oc_mt ce ml (fun _ => e) ob n m) (oc_mt (oc_fi oe ob (-1) 16) ml (fun _ => e) ob n m) r := fun o l ho hl' => by
  by_cases z : o = ob
  · subst z
    rcases oc_mt_at ml o n l m with w | ⟨i, w1, w2⟩
    · left
      rw [w, oc_fi_hi 16 l hl']
    · right
      rw [w2, w2, w2]
      obtain ⟨-, ⟨k1, -⟩ | ⟨k1, k2, k3, m', x4, x5, x6, x7⟩ | ⟨k1, -⟩ | ⟨k1, -⟩⟩ := N n hn
      · rw [hk] at k1; exact absurd k1 (by decide)
      · have em : m' = m := by
          rw [hm] at x5
          exact ((nI_eq (by omega) (by omega)).mp x5).symm
        obtain ⟨l', b, y1, y2, y3, y4, y5⟩ := x6 i (by omega)
        obtain ⟨q1, q2, -⟩ := oc_kid (r := r) hc N hn hl y3 y5
        exact ⟨b, oc_dp par kd bod r n, by omega, q1, y4, q2 (Or.inl hk), oc_En_mo (Nat.le_refl _) (by omega) (fun _ _ => ⟨rfl, rfl⟩) _ _ hE, rfl⟩
      · rw [hk] at k1; exact absurd k1 (by decide)
      · rw [hk] at k1; exact absurd k1 (by decide)
  · have lo : o * 16 + l < ob * 16 := by omega
    rw [oc_mt_lo m _ lo, oc_mt_lo m _ lo, oc_mt_lo m _ lo, oc_fi_lo 16 _ lo, oc_fi_lo 16 _ lo]
    exact oc_Ob_mo (Nat.le_refl _) (by omega) (fun _ _ => ⟨rfl, rfl⟩) h o l (by omega) hl'
theorem oc_Ob_upd {nc tc us ob v l0 b : Nat} {kd par num ann rcv bod mc ml mb co cr cb ce oe : Nat → Int32} {r n : Nat} {e : Int32} (hc : nc ≤ 32) (N : oc_Nd nc tc kd par num ann rcv bod mc ml mb) (hn : n < nc) (hl : oc_li par r n = true) (hb : b < n) (eb : bod n = nI b) (pb : par b = nI n) (hv : v < ob)
    (hE : oc_En co cr us ob (oc_dp par kd bod r n) e) (h : oc_Ob nc us ob par kd bod co cr cb ce oe r) :
    oc_Ob nc us (ob + 1) par kd bod co cr (upd (oc_tc cb v ob 16) (ob * 16 + l0) (nI b)) (upd (oc_tc ce v ob 16) (ob * 16 + l0) e) (upd (oc_tc oe v ob 16) (ob * 16 + l0) e) r := fun o l ho hl' => by
  by_cases z : o = ob
  · subst z
    by_cases y : l = l0
    · subst y
      right
      rw [pk_us, pk_us, pk_us]
      obtain ⟨q1, q2, -⟩ := oc_kid (r := r) hc N hn hl hb pb
      exact ⟨b, oc_dp par kd bod r n, by omega, q1, rfl, q2 (Or.inr eb), oc_En_mo (Nat.le_refl _) (by omega) (fun _ _ => ⟨rfl, rfl⟩) _ _ hE, rfl⟩
    · rw [pk_un (by omega), pk_un (by omega), pk_un (by omega), oc_tc_hi hv 16 l hl' (Nat.le_refl _), oc_tc_hi hv 16 l hl' (Nat.le_refl _), oc_tc_hi hv 16 l hl' (Nat.le_refl _)]
      exact oc_Ob_mo (Nat.le_refl _) (by omega) (fun _ _ => ⟨rfl, rfl⟩) h v l hv hl'
  · have lo : o * 16 + l < ob * 16 := by omega
    rw [pk_un (by omega), pk_un (by omega), pk_un (by omega), oc_tc_lo 16 _ lo, oc_tc_lo 16 _ lo, oc_tc_lo 16 _ lo]
    exact oc_Ob_mo (Nat.le_refl _) (by omega) (fun _ _ => ⟨rfl, rfl⟩) h o l (by omega) hl'
