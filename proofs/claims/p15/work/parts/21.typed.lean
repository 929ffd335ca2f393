/-! what a type of a node says of its children -/
theorem oc_m8 {nc tc : Nat} {kd par num ann rcv bod mc ml mb : Nat → Int32} (N : oc_Nd nc tc kd par num ann rcv bod mc ml mb) : ∀ n, n < nc → kd n = 1 → (mc n).toNatClampNeg ≤ 8 := fun n hn hk => by
  obtain ⟨-, ⟨k1, -⟩ | ⟨k1, k2, k3, m, w4, w5, -⟩ | ⟨k1, -⟩ | ⟨k1, -⟩⟩ := N n hn
  · rw [hk] at k1; exact absurd k1 (by decide)
  · rw [w5, nI_clamp (by omega)]; exact w4
  · rw [hk] at k1; exact absurd k1 (by decide)
  · rw [hk] at k1; exact absurd k1 (by decide)
theorem oc_OB_ok {tm ml mb rt rn : Nat → Int32} {n A m : Nat} {t e : Int32} (ht : ¬ t < 0) : ∀ d i, i + d = m → oc_OB tm ml mb rt rn n A t e d i → t = nI A ∧ ∀ j, i ≤ j → j < m → ¬ rt (mb (n * 8 + j)).toNatClampNeg < 0 ∧ oc_sub tm (rt (mb (n * 8 + j)).toNatClampNeg).toNatClampNeg (tm (A * 16 + (ml (n * 8 + j)).toNatClampNeg)).toNatClampNeg := by
  intro d
  induction d with
  | zero => intro i hi h; exact ⟨h.1, fun j a b => by omega⟩
  | succ d ih =>
    intro i hi h
    unfold oc_OB at h
    have z : ¬ rt (mb (n * 8 + i)).toNatClampNeg < 0 := fun z => ht (by rw [(h.1 z).1]; exact z)
    have s : oc_sub tm (rt (mb (n * 8 + i)).toNatClampNeg).toNatClampNeg (tm (A * 16 + (ml (n * 8 + i)).toNatClampNeg)).toNatClampNeg := Classical.byContradiction fun s => ht (by rw [((h.2 z).2 s).1]; decide)
    obtain ⟨g1, g2⟩ := ih (i + 1) (by omega) ((h.2 z).1 s)
    refine ⟨g1, fun j a b => ?_⟩
    by_cases y : j = i
    · rw [y]; exact ⟨z, s⟩
    · exact g2 j (by omega) b
theorem oc_tO {nc tc : Nat} {tm mk kd par num ann rcv bod mc ml mb : Nat → Int32} {r n : Nat} {rt rn : Nat → Int32} (hc : nc ≤ 32) (htc : tc ≤ 32) (hr : r < nc) (N : oc_Nd nc tc kd par num ann rcv bod mc ml mb) (Y : oc_Ty tc tm mk) (T : oc_Tab tc tm kd par num ann rcv bod mc ml mb r rt rn (r + 1)) (hn : n ≤ r) (hk : kd n = 1) (ht : ¬ rt n < 0) :
    ∃ A m, A < tc ∧ ¬ A = 0 ∧ ann n = nI A ∧ rt n = nI A ∧ mc n = nI m ∧ m ≤ 8 ∧ oc_LM tm mc ml n A ∧ ∀ i, i < m → ∃ l b u m', l < 16 ∧ ml (n * 8 + i) = nI l ∧ b < n ∧ mb (n * 8 + i) = nI b ∧ par b = nI n ∧ u < tc ∧ rt b = nI u ∧ m' < tc ∧ tm (A * 16 + l) = nI m' ∧ oc_sub tm u m' := by
  have hT := T n (by omega)
  obtain ⟨-, ⟨k1, -⟩ | ⟨k1, k2, ⟨A, hA, eA⟩, m, w4, w5, w6, w7⟩ | ⟨k1, -⟩ | ⟨k1, -⟩⟩ := N n (by omega)
  · rw [hk] at k1; exact absurd k1 (by decide)
  · have g := hT.1.2.1 hk
    have cA : (ann n).toNatClampNeg = A := by rw [eA, nI_clamp (by omega)]
    have cm : (mc n).toNatClampNeg = m := by rw [w5, nI_clamp (by omega)]
    have a0 : ¬ ann n = 0 := fun q => ht (by rw [(g.1 q).1]; decide)
    have g2 := g.2 a0
    rw [cA, cm] at g2
    have L : oc_LM tm mc ml n A := Classical.byContradiction fun q => ht (by rw [(g2.1 q).1]; decide)
    obtain ⟨o1, o2⟩ := oc_OB_ok (m := m) ht m 0 (by omega) (g2.2 L)
    refine ⟨A, m, hA, fun q => a0 (by rw [eA, q, nI_0]), eA, o1, w5, w4, L, fun i hi => ?_⟩
    obtain ⟨l, b, y1, y2, y3, y4, y5⟩ := w6 i hi
    obtain ⟨z1, z2⟩ := o2 i (Nat.zero_le _) hi
    have y6 := L.2 i (by rw [cm]; exact hi)
    rw [y2, nI_clamp (by omega)] at y6 z2
    rw [y4, nI_clamp (by omega)] at z1 z2
    rcases (Y.2 A hA).2 l y1 with q | ⟨m', q1, q2⟩
    · exact absurd q y6
    rcases (T b (by omega)).2 with q | ⟨u, u1, u2⟩
    · exact absurd q z1
    rw [u2, q2, nI_clamp (by omega), nI_clamp (by omega)] at z2
    exact ⟨l, b, u, m', y1, y2, y3, y4, y5, u1, u2, q1, q2, z2⟩
  · rw [hk] at k1; exact absurd k1 (by decide)
  · rw [hk] at k1; exact absurd k1 (by decide)
theorem oc_tS {nc tc : Nat} {tm mk kd par num ann rcv bod mc ml mb : Nat → Int32} {r n : Nat} {rt rn : Nat → Int32} (hc : nc ≤ 32) (htc : tc ≤ 32) (hr : r < nc) (N : oc_Nd nc tc kd par num ann rcv bod mc ml mb) (Y : oc_Ty tc tm mk) (T : oc_Tab tc tm kd par num ann rcv bod mc ml mb r rt rn (r + 1)) (hn : n ≤ r) (hk : kd n = 2) (ht : ¬ rt n < 0) :
    ∃ l a k m', l < 16 ∧ num n = nI l ∧ bod n = -1 ∧ a < n ∧ rcv n = nI a ∧ par a = nI n ∧ k < tc ∧ ¬ k = 0 ∧ rt a = nI k ∧ m' < tc ∧ tm (k * 16 + l) = nI m' ∧ rt n = nI m' := by
  have hT := T n (by omega)
  obtain ⟨-, ⟨k1, -⟩ | ⟨k1, -⟩ | ⟨k1, w2, ⟨l, hl, el⟩, a, w4, w5, w6⟩ | ⟨k1, -⟩⟩ := N n (by omega)
  · rw [hk] at k1; exact absurd k1 (by decide)
  · rw [hk] at k1; exact absurd k1 (by decide)
  · have g := hT.1.2.2.1 hk
    rw [w5, nI_clamp (by omega), el, nI_clamp (by omega)] at g
    have z : ¬ rt a < 0 := fun z => ht (by rw [(g.1 z).1]; exact z)
    have g2 := g.2 z
    have z0 : ¬ rt a = 0 := fun q => ht (by rw [(g2.1 q).1]; decide)
    have g3 := g2.2 z0
    rcases (T a (by omega)).2 with q | ⟨k, u1, u2⟩
    · exact absurd q z
    rw [u2, nI_clamp (by omega)] at g3
    have zm : ¬ tm (k * 16 + l) = -1 := fun q => ht (by rw [(g3.1 q).1]; decide)
    rcases (Y.2 k u1).2 l hl with q | ⟨m', q1, q2⟩
    · exact absurd q zm
    exact ⟨l, a, k, m', hl, el, w2, w4, w5, w6, u1, fun q => z0 (by rw [u2, q, nI_0]), u2, q1, q2, by rw [(g3.2 zm).1, q2]⟩
  · rw [hk] at k1; exact absurd k1 (by decide)
theorem oc_tU {nc tc : Nat} {tm mk kd par num ann rcv bod mc ml mb : Nat → Int32} {r n : Nat} {rt rn : Nat → Int32} (hc : nc ≤ 32) (htc : tc ≤ 32) (hr : r < nc) (N : oc_Nd nc tc kd par num ann rcv bod mc ml mb) (Y : oc_Ty tc tm mk) (T : oc_Tab tc tm kd par num ann rcv bod mc ml mb r rt rn (r + 1)) (hn : n ≤ r) (hk : kd n = 3) (ht : ¬ rt n < 0) :
    ∃ l a b A k u m', l < 16 ∧ num n = nI l ∧ a < n ∧ b < n ∧ a ≠ b ∧ rcv n = nI a ∧ bod n = nI b ∧ par a = nI n ∧ par b = nI n ∧ A < tc ∧ ¬ A = 0 ∧ ann n = nI A ∧ rt n = nI A ∧ k < tc ∧ rt a = nI k ∧ oc_sub tm k A ∧ u < tc ∧ rt b = nI u ∧ m' < tc ∧ tm (A * 16 + l) = nI m' ∧ oc_sub tm u m' := by
  have hT := T n (by omega)
  obtain ⟨-, ⟨k1, -⟩ | ⟨k1, -⟩ | ⟨k1, -⟩ | ⟨k1, ⟨l, hl, el⟩, ⟨A, hA, eA⟩, a, b, w4, w5, w6, w7, w8, w9, w10⟩⟩ := N n (by omega)
  · rw [hk] at k1; exact absurd k1 (by decide)
  · rw [hk] at k1; exact absurd k1 (by decide)
  · rw [hk] at k1; exact absurd k1 (by decide)
  · have g := hT.1.2.2.2 hk
    have cA : (ann n).toNatClampNeg = A := by rw [eA, nI_clamp (by omega)]
    rw [w7, nI_clamp (n := a) (by omega), w8, nI_clamp (n := b) (by omega), el, nI_clamp (n := l) (by omega), cA] at g
    have z : ¬ rt a < 0 := fun z => ht (by rw [(g.1 z).1]; exact z)
    have g2 := g.2 z
    have a0 : ¬ ann n = 0 := fun q => ht (by rw [(g2.1 q).1]; decide)
    have g3 := g2.2 a0
    have zm : ¬ tm (A * 16 + l) = -1 := fun q => ht (by rw [(g3.1 q).1]; decide)
    have g4 := g3.2 zm
    have s : oc_sub tm (rt a).toNatClampNeg A := Classical.byContradiction fun q => ht (by rw [(g4.1 q).1]; decide)
    have g5 := g4.2 s
    have zb : ¬ rt b < 0 := fun z => ht (by rw [(g5.1 z).1]; exact z)
    have g6 := g5.2 zb
    have s2 : oc_sub tm (rt b).toNatClampNeg (tm (A * 16 + l)).toNatClampNeg := Classical.byContradiction fun q => ht (by rw [(g6.1 q).1]; decide)
    rcases (T a (by omega)).2 with q | ⟨k, u1, u2⟩
    · exact absurd q z
    rcases (T b (by omega)).2 with q | ⟨u, v1, v2⟩
    · exact absurd q zb
    rcases (Y.2 A hA).2 l hl with q | ⟨m', q1, q2⟩
    · exact absurd q zm
    have g7 := (g6.2 s2).1
    rw [u2, nI_clamp (by omega)] at s
    rw [v2, q2, nI_clamp (by omega), nI_clamp (by omega)] at s2
    exact ⟨l, a, b, A, k, u, m', hl, el, w4, w5, w6, w7, w8, w9, w10, hA, fun q => a0 (by rw [eA, q, nI_0]), eA, by rw [g7, eA], u1, u2, s, v1, v2, q1, q2, s2⟩
theorem oc_tV {nc tc : Nat} {tm kd par num ann rcv bod mc ml mb : Nat → Int32} {r n : Nat} {rt rn : Nat → Int32} (hc : nc ≤ 32) (htc : tc ≤ 32) (hr : r < nc) (N : oc_Nd nc tc kd par num ann rcv bod mc ml mb) (T : oc_Tab tc tm kd par num ann rcv bod mc ml mb r rt rn (r + 1)) (hn : n ≤ r) (hk : kd n = 0) (ht : ¬ rt n < 0) :
    ∃ k p A, k < 16 ∧ num n = nI k ∧ p < nc ∧ oc_bo par kd bod r n k = (p : Int) ∧ A < tc ∧ ann p = nI A ∧ rt n = nI A := by
  have hT := T n (by omega)
  obtain ⟨k, k1, k2⟩ := oc_var N (show n < nc by omega) hk
  have g := hT.1.1 hk
  rw [k2, nI_clamp (by omega)] at g
  rcases oc_bo_3 (kd := kd) (bod := bod) (r := r) (oc_Nd_Pa N) hc n (by omega) k with h | h | ⟨p, m, h1, h2, h3, h4⟩
  · exact absurd (by rw [(g.2 fun p q => by rw [h] at q; omega).1]; decide) ht
  · exact absurd (by rw [(g.2 fun p q => by rw [h] at q; omega).1]; decide) ht
  · obtain ⟨A, hA, eA⟩ := oc_ann N h1 (by omega) h4
    exact ⟨k, p, A, k1, k2, h1, h3, hA, eA, by rw [(g.1 p h3).1, eA]⟩
/-- in an accepted term every node is typed -/
theorem oc_tA {nc tc : Nat} {tm mk kd par num ann rcv bod mc ml mb : Nat → Int32} {r : Nat} {rt rn : Nat → Int32} (hc : nc ≤ 32) (htc : tc ≤ 32) (hr : r < nc) (N : oc_Nd nc tc kd par num ann rcv bod mc ml mb) (Y : oc_Ty tc tm mk) (D : oc_Kd nc kd par rcv bod mc mb) (T : oc_Tab tc tm kd par num ann rcv bod mc ml mb r rt rn (r + 1)) (ht : ¬ rt r < 0) :
    ∀ n, n < nc → oc_li par r n = true → ¬ rt n < 0 := by
  refine oc_up fun n hn ih hl => ?_
  by_cases e : n = r
  · rw [e]; exact ht
  rcases oc_Nd_Pa N n hn with h | ⟨p, h1, h2, h3⟩
  · rw [oc_li_n h e] at hl; exact absurd hl (by decide)
  rw [oc_li_s h3 h1 (by omega) e] at hl
  have tp := ih p h1 h2 hl
  have le := oc_li_le (oc_Nd_Pa N) hc p h2 hl
  rcases D n p hn h2 h3 with ⟨k1, i, i1, i2⟩ | ⟨k1, i2⟩ | ⟨k1, i2⟩
  · obtain ⟨A, m, -, -, -, -, w5, w6, -, w8⟩ := oc_tO hc htc hr N Y T le k1 tp
    rw [w5, nI_clamp (by omega)] at i1
    obtain ⟨l, b, u, m', -, -, y3, y4, -, y6, y7, -⟩ := w8 i i1
    rw [y4, nI_eq (by omega) (by omega)] at i2
    rw [← i2, y7]
    exact nI_pos (by omega)
  · obtain ⟨l, a, k, m', -, -, -, y3, y4, -, y6, -, y7, -⟩ := oc_tS hc htc hr N Y T le k1 tp
    rw [y4, nI_eq (by omega) (by omega)] at i2
    rw [← i2, y7]
    exact nI_pos (by omega)
  · obtain ⟨l, a, b, A, k, u, m', -, -, y3, y4, -, y5, y6, -, -, -, -, -, -, y7, y8, -, y9, y10, -⟩ := oc_tU hc htc hr N Y T le k1 tp
    rcases i2 with i2 | i2
    · rw [y5, nI_eq (by omega) (by omega)] at i2
      rw [← i2, y8]
      exact nI_pos (by omega)
    · rw [y6, nI_eq (by omega) (by omega)] at i2
      rw [← i2, y10]
      exact nI_pos (by omega)
theorem oc_tC {nc tc : Nat} {tm mk kd par num ann rcv bod mc ml mb : Nat → Int32} {r : Nat} {rt rn : Nat → Int32} (hc : nc ≤ 32) (htc : tc ≤ 32) (hr : r < nc) (N : oc_Nd nc tc kd par num ann rcv bod mc ml mb) (Y : oc_Ty tc tm mk) (D : oc_Kd nc kd par rcv bod mc mb) (T : oc_Tab tc tm kd par num ann rcv bod mc ml mb r rt rn (r + 1)) (ht : ¬ rt r < 0) :
    oc_Cl nc par kd num bod r := fun n hn hk q => by
  have hl := oc_bo_li (oc_Nd_Pa N) hc n hn _ q
  have le := oc_li_le (oc_Nd_Pa N) hc n hn hl
  obtain ⟨k, p, A, k1, k2, -, k3, -⟩ := oc_tV hc htc hr N T le hk (oc_tA hc htc hr N Y D T ht n hn hl)
  rw [k2, nI_clamp (by omega), k3] at q
  omega
/-! every label of a literal's type has a method -/
theorem oc_lab {tm mc ml : Nat → Int32} {n A m : Nat} (hm : mc n = nI m) (hm8 : m ≤ 8) (L : oc_LM tm mc ml n A) (hl : ∀ i, i < m → ∃ l, l < 16 ∧ ml (n * 8 + i) = nI l) (hd : ∀ i j, i < m → j < m → ml (n * 8 + i) = ml (n * 8 + j) → i = j) :
    ∀ l, l < 16 → ¬ tm (A * 16 + l) = -1 → ∃ i, i < m ∧ ml (n * 8 + i) = nI l := fun l0 hl0 ht0 => Classical.byContradiction fun no => by
  have cm : (mc n).toNatClampNeg = m := by rw [hm, nI_clamp (by omega)]
  have e1 : oc_lc tm A = m := by
    have := L.1
    rw [hm] at this
    exact ((nI_eq (by omega) (by have := oc_lc_16 tm A; omega)).mp this).symm
  have s1 : oc_sm (fun l => oc_sm (fun i => if (ml (n * 8 + i)).toNatClampNeg = l then 1 else 0) m) 16 = m := by
    rw [← oc_sm_x (fun i l => if (ml (n * 8 + i)).toNatClampNeg = l then 1 else 0) 16 m]
    have : oc_sm (fun i => oc_sm (fun l => if (ml (n * 8 + i)).toNatClampNeg = l then 1 else 0) 16) m = oc_sm (fun _ => 1) m := oc_sm_cg m fun i hi => by
      obtain ⟨l, l1, l2⟩ := hl i hi
      have a := oc_sm_1 (fun l' => if (ml (n * 8 + i)).toNatClampNeg = l' then 1 else 0) (k := l) 16 l1
      have b : oc_sm (fun l' => if (ml (n * 8 + i)).toNatClampNeg = l' then 1 else 0) 16 ≤ 1 := oc_sm_u 16 (fun i _ => by split <;> omega) (fun x y _ _ hx hy => by
        have hx' : (ml (n * 8 + i)).toNatClampNeg = x := Decidable.byContradiction fun q => by rw [if_neg q] at hx; omega
        have hy' : (ml (n * 8 + i)).toNatClampNeg = y := Decidable.byContradiction fun q => by rw [if_neg q] at hy; omega
        omega)
      rw [if_pos (by rw [l2, nI_clamp (by omega)])] at a
      omega
    rw [this]
    have g : ∀ m, oc_sm (fun _ => 1) m = m := fun m => by
      induction m with
      | zero => rfl
      | succ m ih => rw [oc_sm, ih]
    exact g m
  have s2 : oc_sm (fun l => oc_sm (fun i => if (ml (n * 8 + i)).toNatClampNeg = l then 1 else 0) m + (if l = l0 then 1 else 0)) 16 ≤ oc_lc tm A := by
    refine oc_sm_le 16 fun l hl16 => ?_
    by_cases w : ∃ i, i < m ∧ (ml (n * 8 + i)).toNatClampNeg = l
    · obtain ⟨i, i1, i2⟩ := w
      have ne : ¬ l = l0 := fun q => no ⟨i, i1, by
        obtain ⟨l', x1, x2⟩ := hl i i1
        rw [x2, nI_clamp (by omega)] at i2
        rw [x2, i2, q]⟩
      have tl : ¬ tm (A * 16 + l) = -1 := by
        have := L.2 i (by rw [cm]; exact i1)
        rw [i2] at this
        exact this
      rw [if_neg ne, if_neg tl]
      refine oc_sm_u m (fun i _ => by split <;> omega) (fun x y hx hy ax ay => ?_)
      have hx' : (ml (n * 8 + x)).toNatClampNeg = l := Decidable.byContradiction fun q => by rw [if_neg q] at ax; omega
      have hy' : (ml (n * 8 + y)).toNatClampNeg = l := Decidable.byContradiction fun q => by rw [if_neg q] at ay; omega
      obtain ⟨lx, x1, x2⟩ := hl x hx
      obtain ⟨ly, y1, y2⟩ := hl y hy
      rw [x2, nI_clamp (by omega)] at hx'
      rw [y2, nI_clamp (by omega)] at hy'
      exact hd x y hx hy (by rw [x2, y2, hx', hy'])
    · have z : oc_sm (fun i => if (ml (n * 8 + i)).toNatClampNeg = l then 1 else 0) m = 0 := oc_sm_z m fun i hi => if_neg fun q => w ⟨i, hi, q⟩
      rw [z]
      by_cases q : l = l0
      · rw [if_pos q, q, if_neg ht0] <;> omega
      · rw [if_neg q]; omega
  rw [oc_sm_add, s1, e1] at s2
  have s3 := oc_sm_1 (fun l => if l = l0 then 1 else 0) (k := l0) 16 hl0
  rw [if_pos rfl] at s3
  omega
