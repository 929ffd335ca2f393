/-! subtyping -/
theorem oc_sub_tr {tm : Nat → Int32} {a b c : Nat} (h1 : oc_sub tm a b) (h2 : oc_sub tm b c) : oc_sub tm a c := by
  rcases h2 with rfl | h | ⟨b0, hb⟩
  · exact h1
  · exact Or.inr (Or.inl h)
  · rcases h1 with rfl | h | ⟨a0, ha⟩
    · exact Or.inr (Or.inr ⟨b0, hb⟩)
    · exact absurd h b0
    · refine Or.inr (Or.inr ⟨a0, fun l hl => ?_⟩)
      rcases hb l hl with q | q
      · exact Or.inl q
      · rcases ha l hl with w | w
        · exact Or.inl (q.symm.trans w)
        · exact Or.inr (w.trans q)
theorem oc_sub_me {tm : Nat → Int32} {a b l : Nat} (h : oc_sub tm a b) (hb : ¬ b = 0) (hl : l < 16) (hm : ¬ tm (b * 16 + l) = -1) : tm (a * 16 + l) = tm (b * 16 + l) := by
  rcases h with rfl | h | ⟨a0, ha⟩
  · rfl
  · exact absurd h hb
  · exact (ha l hl).resolve_left hm
theorem oc_sub_n0 {tm : Nat → Int32} {a b : Nat} (h : oc_sub tm a b) (hb : ¬ b = 0) : ¬ a = 0 := by
  rcases h with rfl | h | ⟨a0, ha⟩
  · exact hb
  · exact absurd h hb
  · exact a0
/-! who has a parent is its child; the labels of a literal are apart -/
def oc_Kd (nc : Nat) (kd par rcv bod mc mb : Nat → Int32) : Prop := ∀ n p, n < nc → p < nc → par n = nI p →
  (kd p = 1 ∧ ∃ i, i < (mc p).toNatClampNeg ∧ mb (p * 8 + i) = nI n) ∨ (kd p = 2 ∧ rcv p = nI n) ∨ (kd p = 3 ∧ (rcv p = nI n ∨ bod p = nI n))
def oc_Ld (nc : Nat) (kd mc ml : Nat → Int32) : Prop := ∀ n, n < nc → kd n = 1 → ∀ i j, i < (mc n).toNatClampNeg → j < (mc n).toNatClampNeg → ml (n * 8 + i) = ml (n * 8 + j) → i = j
theorem oc_Kd_new {nc : Nat} {kd par rcv bod mc mb kd' par' rcv' bod' : Nat → Int32} (hc : nc ≤ 32) (h : oc_Kd nc kd par rcv bod mc mb)
    (e : ∀ n, n < nc → kd' n = kd n ∧ rcv' n = rcv n ∧ bod' n = bod n) (e0 : par' nc = -1)
    (ep : ∀ n, n < nc → par' n = par n ∨ (par' n = nI nc ∧ ((kd' nc = 2 ∧ rcv' nc = nI n) ∨ (kd' nc = 3 ∧ (rcv' nc = nI n ∨ bod' nc = nI n))))) (hp : ∀ n, n < nc → ¬ par n = nI nc) : oc_Kd (nc + 1) kd' par' rcv' bod' mc mb := fun n p hn hp1 hq => by
  by_cases z : n = nc
  · rw [z, e0] at hq; exact absurd hq (oc_m1' (by omega))
  have hn' : n < nc := by omega
  by_cases y : p = nc
  · subst y
    rcases ep n hn' with w | ⟨-, w⟩
    · rw [w] at hq; exact absurd hq (hp n hn')
    · exact Or.inr w
  · have hp' : p < nc := by omega
    obtain ⟨e1, e2, e3⟩ := e p hp'
    rcases ep n hn' with w | ⟨w, -⟩
    · rw [e1, e2, e3]
      exact h n p hn' hp' (by rw [← w]; exact hq)
    · rw [w, nI_eq (by omega) (by omega)] at hq
      omega
theorem oc_Kd_add {nc o b m : Nat} {kd par rcv bod mc mb : Nat → Int32} (hc : nc ≤ 32) (h : oc_Kd nc kd par rcv bod mc mb) (h8 : ∀ n, n < nc → kd n = 1 → (mc n).toNatClampNeg ≤ 8) (ho : o < nc) (hk : kd o = 1) (hb : b < o) (hm : mc o = nI m) (hm8 : m < 8) :
    oc_Kd nc kd (upd par b (nI o)) rcv bod (upd mc o (nI (m + 1))) (upd mb (o * 8 + m) (nI b)) := fun n p hn hp hq => by
  by_cases z : n = b
  · rw [z, pk_us, nI_eq (by omega) (by omega)] at hq
    subst hq
    refine Or.inl ⟨hk, m, ?_, by rw [pk_us, z]⟩
    rw [pk_us, nI_clamp (by omega)]
    omega
  · rw [pk_un z] at hq
    rcases h n p hn hp hq with ⟨w1, i, w2, w3⟩ | w | w
    · refine Or.inl ⟨w1, i, ?_, ?_⟩
      · by_cases y : p = o
        · rw [y, hm, nI_clamp (by omega)] at w2
          rw [y, pk_us, nI_clamp (by omega)]
          omega
        · rw [pk_un y]; exact w2
      · by_cases y : p * 8 + i = o * 8 + m
        · exfalso
          by_cases y' : p = o
          · rw [y', hm, nI_clamp (by omega)] at w2
            subst y'
            omega
          · have := h8 p hp w1
            omega
        · rw [pk_un y]; exact w3
    · exact Or.inr (Or.inl w)
    · exact Or.inr (Or.inr w)
theorem oc_Ld_new {nc : Nat} {kd mc ml kd' : Nat → Int32} (h : oc_Ld nc kd mc ml) (e : ∀ n, n < nc → kd' n = kd n) (h0 : mc nc = 0) : oc_Ld (nc + 1) kd' mc ml := fun n hn hk i j hi => by
  by_cases z : n = nc
  · rw [z, h0] at hi
    exact absurd hi (Nat.not_lt_zero _)
  · exact h n (by omega) (by rw [← e n (by omega)]; exact hk) i j hi
theorem oc_Ld_add {nc o m l : Nat} {kd mc ml : Nat → Int32} (hc : nc ≤ 32) (h : oc_Ld nc kd mc ml) (h8 : ∀ n, n < nc → kd n = 1 → (mc n).toNatClampNeg ≤ 8) (ho : o < nc) (hm : mc o = nI m) (hm8 : m < 8) (hl : ¬ ∃ i, i < m ∧ ml (o * 8 + i) = nI l) :
    oc_Ld nc kd (upd mc o (nI (m + 1))) (upd ml (o * 8 + m) (nI l)) := fun n hn hk i j hi hj he => by
  by_cases z : n = o
  · subst z
    rw [pk_us, nI_clamp (by omega)] at hi hj
    by_cases y : i = m
    · by_cases y' : j = m
      · omega
      · rw [y, pk_us, pk_un (by omega)] at he
        exact absurd ⟨j, by omega, he.symm⟩ hl
    · by_cases y' : j = m
      · rw [y', pk_us, pk_un (by omega)] at he
        exact absurd ⟨i, by omega, he⟩ hl
      · rw [pk_un (by omega), pk_un (by omega)] at he
        exact h n hn hk i j (by rw [hm, nI_clamp (by omega)]; omega) (by rw [hm, nI_clamp (by omega)]; omega) he
  · rw [pk_un z] at hi hj
    have := h8 n hn hk
    rw [pk_un (by omega), pk_un (by omega)] at he
    exact h n hn hk i j hi hj he
/-! every term has a table of types -/
theorem oc_OB_ex {tc : Nat} {tm ml mb rt rn : Nat → Int32} {n A m : Nat} (hA : A < tc) (hrt : ∀ i, i < m → rt (mb (n * 8 + i)).toNatClampNeg < 0 ∨ ∃ k, k < tc ∧ rt (mb (n * 8 + i)).toNatClampNeg = nI k) :
    ∀ d i, i + d = m → ∃ t e, oc_OB tm ml mb rt rn n A t e d i ∧ (t < 0 ∨ ∃ k, k < tc ∧ t = nI k) := by
  intro d
  induction d with
  | zero => intro i hi; exact ⟨nI A, -1, ⟨rfl, rfl⟩, Or.inr ⟨A, hA, rfl⟩⟩
  | succ d ih =>
    intro i hi
    by_cases z : rt (mb (n * 8 + i)).toNatClampNeg < 0
    · exact ⟨_, _, ⟨fun _ => ⟨rfl, rfl⟩, fun q => absurd z q⟩, Or.inl z⟩
    · rcases Classical.em (oc_sub tm (rt (mb (n * 8 + i)).toNatClampNeg).toNatClampNeg (tm (A * 16 + (ml (n * 8 + i)).toNatClampNeg)).toNatClampNeg) with s | s
      · obtain ⟨t, e, o1, o2⟩ := ih (i + 1) (by omega)
        exact ⟨t, e, ⟨fun q => absurd q z, fun _ => ⟨fun _ => o1, fun q => absurd s q⟩⟩, o2⟩
      · exact ⟨-7, nI n, ⟨fun q => absurd q z, fun _ => ⟨fun q => absurd q s, fun _ => ⟨rfl, rfl⟩⟩⟩, Or.inl (by decide)⟩
theorem oc_LT_ex {nc tc : Nat} {tm mk kd par num ann rcv bod mc ml mb : Nat → Int32} {r : Nat} {rt rn : Nat → Int32} {n : Nat} (hc : nc ≤ 32) (htc : tc ≤ 32) (hn : n < nc) (N : oc_Nd nc tc kd par num ann rcv bod mc ml mb) (Y : oc_Ty tc tm mk)
    (hrt : ∀ b, b < n → rt b < 0 ∨ ∃ k, k < tc ∧ rt b = nI k) : ∃ t e, oc_LT tm kd par num ann rcv bod mc ml mb r rt rn n t e ∧ (t < 0 ∨ ∃ k, k < tc ∧ t = nI k) := by
  obtain ⟨-, ⟨k1, k2, k, hk, ek⟩ | ⟨k1, k2, ⟨A, hA, eA⟩, m, w4, w5, w6, w7⟩ | ⟨k1, w2, ⟨l, hl, el⟩, a, w4, w5, w6⟩ | ⟨k1, ⟨l, hl, el⟩, ⟨A, hA, eA⟩, a, b, w4, w5, w6, w7, w8, w9, w10⟩⟩ := N n hn
  · have lt : ∀ t e, ((∀ p : Nat, oc_bo par kd bod r n (num n).toNatClampNeg = (p : Int) → t = ann p ∧ e = -1) ∧ ((∀ p : Nat, ¬ oc_bo par kd bod r n (num n).toNatClampNeg = (p : Int)) → t = -2 ∧ e = nI n)) → oc_LT tm kd par num ann rcv bod mc ml mb r rt rn n t e := fun t e w => by
      refine ⟨fun _ => w, fun z => ?_, fun z => ?_, fun z => ?_⟩ <;> (rw [k1] at z; exact absurd z (by decide))
    rcases oc_bo_3 (kd := kd) (bod := bod) (r := r) (oc_Nd_Pa N) hc n hn (num n).toNatClampNeg with h | h | ⟨p, m, h1, h2, h3, h4⟩
    · exact ⟨-2, nI n, lt _ _ ⟨fun p q => by rw [h] at q; omega, fun _ => ⟨rfl, rfl⟩⟩, Or.inl (by decide)⟩
    · exact ⟨-2, nI n, lt _ _ ⟨fun p q => by rw [h] at q; omega, fun _ => ⟨rfl, rfl⟩⟩, Or.inl (by decide)⟩
    · obtain ⟨A, hA, eA⟩ := oc_ann N h1 (by omega) h4
      refine ⟨ann p, -1, lt _ _ ⟨fun p' q => ?_, fun q => absurd h3 (q p)⟩, Or.inr ⟨A, hA, eA⟩⟩
      have : p' = p := by rw [h3] at q; omega
      rw [this]; exact ⟨rfl, rfl⟩
  · have lt : ∀ t e, ((ann n = 0 → t = -3 ∧ e = nI n) ∧ (¬ ann n = 0 → (¬ oc_LM tm mc ml n (ann n).toNatClampNeg → t = -5 ∧ e = nI n) ∧ (oc_LM tm mc ml n (ann n).toNatClampNeg → oc_OB tm ml mb rt rn n (ann n).toNatClampNeg t e (mc n).toNatClampNeg 0))) → oc_LT tm kd par num ann rcv bod mc ml mb r rt rn n t e := fun t e w => by
      refine ⟨fun z => ?_, fun _ => w, fun z => ?_, fun z => ?_⟩ <;> (rw [k1] at z; exact absurd z (by decide))
    by_cases a0 : ann n = 0
    · exact ⟨-3, nI n, lt _ _ ⟨fun _ => ⟨rfl, rfl⟩, fun q => absurd a0 q⟩, Or.inl (by decide)⟩
    rcases Classical.em (oc_LM tm mc ml n (ann n).toNatClampNeg) with L | L
    · have cA : (ann n).toNatClampNeg = A := by rw [eA, nI_clamp (by omega)]
      have cm : (mc n).toNatClampNeg = m := by rw [w5, nI_clamp (by omega)]
      obtain ⟨t, e, o1, o2⟩ := oc_OB_ex (tm := tm) (ml := ml) (mb := mb) (rt := rt) (rn := rn) (n := n) (A := (ann n).toNatClampNeg) (m := (mc n).toNatClampNeg) (by rw [cA]; exact hA) (fun i hi => by
        rw [cm] at hi
        obtain ⟨l, b, y1, y2, y3, y4, -⟩ := w6 i hi
        rw [y4, nI_clamp (by omega)]
        exact hrt b y3) (mc n).toNatClampNeg 0 (by omega)
      exact ⟨t, e, lt _ _ ⟨fun q => absurd q a0, fun _ => ⟨fun q => absurd L q, fun _ => o1⟩⟩, o2⟩
    · exact ⟨-5, nI n, lt _ _ ⟨fun q => absurd q a0, fun _ => ⟨fun _ => ⟨rfl, rfl⟩, fun q => absurd q L⟩⟩, Or.inl (by decide)⟩
  · have ca : (rcv n).toNatClampNeg = a := by rw [w5, nI_clamp (by omega)]
    have cl : (num n).toNatClampNeg = l := by rw [el, nI_clamp (by omega)]
    have lt : ∀ t e, ((rt a < 0 → t = rt a ∧ e = rn a) ∧ (¬ rt a < 0 → (rt a = 0 → t = -3 ∧ e = nI n) ∧ (¬ rt a = 0 → (tm ((rt a).toNatClampNeg * 16 + l) = -1 → t = -4 ∧ e = nI n) ∧ (¬ tm ((rt a).toNatClampNeg * 16 + l) = -1 → t = tm ((rt a).toNatClampNeg * 16 + l) ∧ e = -1)))) → oc_LT tm kd par num ann rcv bod mc ml mb r rt rn n t e := fun t e w => by
      refine ⟨fun z => ?_, fun z => ?_, fun _ => by rw [ca, cl]; exact w, fun z => ?_⟩ <;> (rw [k1] at z; exact absurd z (by decide))
    rcases hrt a w4 with z | ⟨k, z1, z2⟩
    · exact ⟨_, _, lt _ _ ⟨fun _ => ⟨rfl, rfl⟩, fun q => absurd z q⟩, Or.inl z⟩
    have nn : ¬ rt a < 0 := by rw [z2]; exact nI_pos (by omega)
    have ck : (rt a).toNatClampNeg = k := by rw [z2, nI_clamp (by omega)]
    rw [ck] at lt
    by_cases e0 : rt a = 0
    · exact ⟨-3, nI n, lt _ _ ⟨fun q => absurd q nn, fun _ => ⟨fun _ => ⟨rfl, rfl⟩, fun q => absurd e0 q⟩⟩, Or.inl (by decide)⟩
    rcases (Y.2 k z1).2 l hl with y | ⟨m', y1, y2⟩
    · exact ⟨-4, nI n, lt _ _ ⟨fun q => absurd q nn, fun _ => ⟨fun q => absurd q e0, fun _ => ⟨fun _ => ⟨rfl, rfl⟩, fun q => absurd y q⟩⟩⟩, Or.inl (by decide)⟩
    · have ny : ¬ tm (k * 16 + l) = -1 := by rw [y2]; exact oc_m1 (by omega)
      exact ⟨_, -1, lt _ _ ⟨fun q => absurd q nn, fun _ => ⟨fun q => absurd q e0, fun _ => ⟨fun q => absurd q ny, fun _ => ⟨rfl, rfl⟩⟩⟩⟩, Or.inr ⟨m', y1, y2⟩⟩
  · have ca : (rcv n).toNatClampNeg = a := by rw [w7, nI_clamp (by omega)]
    have cb : (bod n).toNatClampNeg = b := by rw [w8, nI_clamp (by omega)]
    have cl : (num n).toNatClampNeg = l := by rw [el, nI_clamp (by omega)]
    have cA : (ann n).toNatClampNeg = A := by rw [eA, nI_clamp (by omega)]
    have lt : ∀ t e, ((rt a < 0 → t = rt a ∧ e = rn a) ∧ (¬ rt a < 0 → (ann n = 0 → t = -3 ∧ e = nI n) ∧ (¬ ann n = 0 → (tm (A * 16 + l) = -1 → t = -4 ∧ e = nI n) ∧ (¬ tm (A * 16 + l) = -1 → (¬ oc_sub tm (rt a).toNatClampNeg A → t = -6 ∧ e = nI n) ∧ (oc_sub tm (rt a).toNatClampNeg A →
        (rt b < 0 → t = rt b ∧ e = rn b) ∧ (¬ rt b < 0 → (¬ oc_sub tm (rt b).toNatClampNeg (tm (A * 16 + l)).toNatClampNeg → t = -7 ∧ e = nI n) ∧ (oc_sub tm (rt b).toNatClampNeg (tm (A * 16 + l)).toNatClampNeg → t = ann n ∧ e = -1))))))) → oc_LT tm kd par num ann rcv bod mc ml mb r rt rn n t e := fun t e w => by
      refine ⟨fun z => ?_, fun z => ?_, fun z => ?_, fun _ => by rw [ca, cb, cl, cA]; exact w⟩ <;> (rw [k1] at z; exact absurd z (by decide))
    rcases hrt a w4 with z | ⟨k, z1, z2⟩
    · exact ⟨_, _, lt _ _ ⟨fun _ => ⟨rfl, rfl⟩, fun q => absurd z q⟩, Or.inl z⟩
    have nn : ¬ rt a < 0 := by rw [z2]; exact nI_pos (by omega)
    by_cases a0 : ann n = 0
    · exact ⟨-3, nI n, lt _ _ ⟨fun q => absurd q nn, fun _ => ⟨fun _ => ⟨rfl, rfl⟩, fun q => absurd a0 q⟩⟩, Or.inl (by decide)⟩
    by_cases y : tm (A * 16 + l) = -1
    · exact ⟨-4, nI n, lt _ _ ⟨fun q => absurd q nn, fun _ => ⟨fun q => absurd q a0, fun _ => ⟨fun _ => ⟨rfl, rfl⟩, fun q => absurd y q⟩⟩⟩, Or.inl (by decide)⟩
    rcases Classical.em (oc_sub tm (rt a).toNatClampNeg A) with s | s
    · rcases hrt b w5 with x | ⟨k', x1, x2⟩
      · exact ⟨_, _, lt _ _ ⟨fun q => absurd q nn, fun _ => ⟨fun q => absurd q a0, fun _ => ⟨fun q => absurd q y, fun _ => ⟨fun q => absurd s q, fun _ => ⟨fun _ => ⟨rfl, rfl⟩, fun q => absurd x q⟩⟩⟩⟩⟩, Or.inl x⟩
      · have nx : ¬ rt b < 0 := by rw [x2]; exact nI_pos (by omega)
        rcases Classical.em (oc_sub tm (rt b).toNatClampNeg (tm (A * 16 + l)).toNatClampNeg) with s2 | s2
        · exact ⟨_, -1, lt _ _ ⟨fun q => absurd q nn, fun _ => ⟨fun q => absurd q a0, fun _ => ⟨fun q => absurd q y, fun _ => ⟨fun q => absurd s q, fun _ => ⟨fun q => absurd q nx, fun _ => ⟨fun q => absurd s2 q, fun _ => ⟨rfl, rfl⟩⟩⟩⟩⟩⟩⟩, Or.inr ⟨A, hA, eA⟩⟩
        · exact ⟨-7, nI n, lt _ _ ⟨fun q => absurd q nn, fun _ => ⟨fun q => absurd q a0, fun _ => ⟨fun q => absurd q y, fun _ => ⟨fun q => absurd s q, fun _ => ⟨fun q => absurd q nx, fun _ => ⟨fun _ => ⟨rfl, rfl⟩, fun q => absurd q s2⟩⟩⟩⟩⟩⟩, Or.inl (by decide)⟩
    · exact ⟨-6, nI n, lt _ _ ⟨fun q => absurd q nn, fun _ => ⟨fun q => absurd q a0, fun _ => ⟨fun q => absurd q y, fun _ => ⟨fun _ => ⟨rfl, rfl⟩, fun q => absurd q s⟩⟩⟩⟩, Or.inl (by decide)⟩
theorem oc_Tab_ex {nc tc : Nat} {tm mk kd par num ann rcv bod mc ml mb : Nat → Int32} {r : Nat} (hc : nc ≤ 32) (htc : tc ≤ 32) (N : oc_Nd nc tc kd par num ann rcv bod mc ml mb) (Y : oc_Ty tc tm mk) : ∀ i, i ≤ nc → ∃ rt rn, oc_Tab tc tm kd par num ann rcv bod mc ml mb r rt rn i
  | 0, _ => ⟨fun _ => 0, fun _ => 0, fun n hn => absurd hn (Nat.not_lt_zero _)⟩
  | i + 1, hi => by
    obtain ⟨rt, rn, T⟩ := oc_Tab_ex (r := r) hc htc N Y i (by omega)
    obtain ⟨t, e, o1, o2⟩ := oc_LT_ex (r := r) (rn := rn) hc htc (show i < nc by omega) N Y (fun b hb => (T b hb).2)
    exact ⟨_, _, oc_Tab_up hc (by omega) N T o1 o2⟩
