/-! the invariant of nodes and types -/
def oc_Nc (nc tc : Nat) (kd par num ann rcv bod mc ml mb : Nat → Int32) (n : Nat) : Prop :=
  (par n = -1 ∨ ∃ p, n < p ∧ p < nc ∧ par n = nI p) ∧
  ((kd n = 0 ∧ bod n = -1 ∧ ∃ k, k < 16 ∧ num n = nI k) ∨
   (kd n = 1 ∧ bod n = -1 ∧ (∃ A, A < tc ∧ ann n = nI A) ∧ ∃ m, m ≤ 8 ∧ mc n = nI m ∧
      (∀ i, i < m → ∃ l b, l < 16 ∧ ml (n * 8 + i) = nI l ∧ b < n ∧ mb (n * 8 + i) = nI b ∧ par b = nI n) ∧
      (∀ i j, i < m → j < m → mb (n * 8 + i) = mb (n * 8 + j) → i = j)) ∨
   (kd n = 2 ∧ bod n = -1 ∧ (∃ l, l < 16 ∧ num n = nI l) ∧ ∃ a, a < n ∧ rcv n = nI a ∧ par a = nI n) ∨
   (kd n = 3 ∧ (∃ l, l < 16 ∧ num n = nI l) ∧ (∃ A, A < tc ∧ ann n = nI A) ∧
      ∃ a b, a < n ∧ b < n ∧ a ≠ b ∧ rcv n = nI a ∧ bod n = nI b ∧ par a = nI n ∧ par b = nI n))
def oc_Nd (nc tc : Nat) (kd par num ann rcv bod mc ml mb : Nat → Int32) : Prop :=
  ∀ n, n < nc → oc_Nc nc tc kd par num ann rcv bod mc ml mb n
theorem oc_Nd_Pa {nc tc : Nat} {kd par num ann rcv bod mc ml mb : Nat → Int32} (h : oc_Nd nc tc kd par num ann rcv bod mc ml mb) : oc_Pa par nc := fun n hn => (h n hn).1
theorem oc_Nd_tc {nc tc tc' : Nat} {kd par num ann rcv bod mc ml mb : Nat → Int32} (h : oc_Nd nc tc kd par num ann rcv bod mc ml mb) (ht : tc ≤ tc') : oc_Nd nc tc' kd par num ann rcv bod mc ml mb := fun n hn => by
  obtain ⟨h1, h2 | ⟨k1, k2, ⟨A, a1, a2⟩, k3⟩ | h2 | ⟨k1, k2, ⟨A, a1, a2⟩, k3⟩⟩ := h n hn
  · exact ⟨h1, Or.inl h2⟩
  · exact ⟨h1, Or.inr (Or.inl ⟨k1, k2, ⟨A, by omega, a2⟩, k3⟩)⟩
  · exact ⟨h1, Or.inr (Or.inr (Or.inl h2))⟩
  · exact ⟨h1, Or.inr (Or.inr (Or.inr ⟨k1, k2, ⟨A, by omega, a2⟩, k3⟩))⟩
theorem oc_Nd_new {nc tc : Nat} {kd par num ann rcv bod mc ml mb kd' par' num' ann' rcv' bod' : Nat → Int32} (hc : nc ≤ 32) (h : oc_Nd nc tc kd par num ann rcv bod mc ml mb)
    (e : ∀ n, n < nc → kd' n = kd n ∧ num' n = num n ∧ ann' n = ann n ∧ rcv' n = rcv n ∧ bod' n = bod n)
    (ep : ∀ n, n < nc → par' n = par n ∨ (par n = -1 ∧ par' n = nI nc))
    (hn : oc_Nc (nc + 1) tc kd' par' num' ann' rcv' bod' mc ml mb nc) : oc_Nd (nc + 1) tc kd' par' num' ann' rcv' bod' mc ml mb := fun n hlt => by
  by_cases z : n = nc
  · rw [z]; exact hn
  have hn' : n < nc := by omega
  obtain ⟨e1, e2, e3, e4, e5⟩ := e n hn'
  have pk : ∀ b, b < n → par b = nI n → par' b = nI n := fun b hb hp => by
    rcases ep b (by omega) with q | ⟨q, -⟩
    · rw [q, hp]
    · rw [q] at hp; exact absurd hp (oc_m1' (by omega))
  obtain ⟨h1, h2⟩ := h n hn'
  refine ⟨?_, ?_⟩
  · rcases ep n hn' with q | ⟨-, q⟩
    · rw [q]
      rcases h1 with w | ⟨p, w1, w2, w3⟩
      · exact Or.inl w
      · exact Or.inr ⟨p, w1, by omega, w3⟩
    · exact Or.inr ⟨nc, hn', by omega, q⟩
  · rw [e1, e2, e3, e4, e5]
    rcases h2 with w | ⟨w1, w2, w3, m, w4, w5, w6, w7⟩ | ⟨w1, w2, w3, a, w4, w5, w6⟩ | ⟨w1, w2, w3, a, b, w4, w5, w6, w7, w8, w9, w10⟩
    · exact Or.inl w
    · refine Or.inr (Or.inl ⟨w1, w2, w3, m, w4, w5, fun i hi => ?_, w7⟩)
      obtain ⟨l, b, x1, x2, x3, x4, x5⟩ := w6 i hi
      exact ⟨l, b, x1, x2, x3, x4, pk b x3 x5⟩
    · exact Or.inr (Or.inr (Or.inl ⟨w1, w2, w3, a, w4, w5, pk a w4 w6⟩))
    · exact Or.inr (Or.inr (Or.inr ⟨w1, w2, w3, a, b, w4, w5, w6, w7, w8, pk a w4 w9, pk b w5 w10⟩))
theorem oc_Nd_add {nc tc o b m l : Nat} {kd par num ann rcv bod mc ml mb : Nat → Int32} (hc : nc ≤ 32) (h : oc_Nd nc tc kd par num ann rcv bod mc ml mb)
    (ho : o < nc) (hk : kd o = 1) (hb : b < o) (hp : par b = -1) (hm : mc o = nI m) (hm8 : m < 8) (hl : l < 16) :
    oc_Nd nc tc kd (upd par b (nI o)) num ann rcv bod (upd mc o (nI (m + 1))) (upd ml (o * 8 + m) (nI l)) (upd mb (o * 8 + m) (nI b)) := fun n hn => by
  have pk : ∀ c q, q < nc → par c = nI q → upd par b (nI o) c = nI q := fun c q hq he => by
    by_cases z : c = b
    · rw [z, hp] at he; exact absurd he (oc_m1' (by omega))
    · rw [pk_un z, he]
  obtain ⟨h1, h2⟩ := h n hn
  refine ⟨?_, ?_⟩
  · by_cases z : n = b
    · exact Or.inr ⟨o, by omega, ho, by rw [z, pk_us]⟩
    · rw [pk_un z]; exact h1
  · rcases h2 with w | ⟨w1, w2, w3, m', w4, w5, w6, w7⟩ | ⟨w1, w2, w3, a, w4, w5, w6⟩ | ⟨w1, w2, w3, a, b', w4, w5, w6, w7, w8, w9, w10⟩
    · exact Or.inl w
    · refine Or.inr (Or.inl ⟨w1, w2, w3, ?_⟩)
      by_cases z : n = o
      · subst z
        have e : m' = m := by
          rw [hm] at w5
          exact ((nI_eq (by omega) (by omega)).mp w5).symm
        subst e
        have nb : ∀ i, i < m' → mb (n * 8 + i) ≠ nI b := fun i hi he => by
          obtain ⟨l', c, x1, x2, x3, x4, x5⟩ := w6 i hi
          rw [x4, nI_eq (by omega) (by omega)] at he
          rw [he, hp] at x5
          exact absurd x5 (oc_m1' (by omega))
        refine ⟨m' + 1, by omega, pk_us, fun i hi => ?_, fun i j hi hj he => ?_⟩
        · by_cases y : i = m'
          · rw [y]; exact ⟨l, b, hl, pk_us, hb, pk_us, pk_us⟩
          · obtain ⟨l', c, x1, x2, x3, x4, x5⟩ := w6 i (by omega)
            rw [pk_un (by omega), pk_un (by omega)]
            exact ⟨l', c, x1, x2, x3, x4, pk c n hn x5⟩
        · by_cases y : i = m'
          · by_cases y' : j = m'
            · omega
            · rw [y, pk_us, pk_un (by omega)] at he
              exact absurd he.symm (nb j (by omega))
          · by_cases y' : j = m'
            · rw [y', pk_us, pk_un (by omega)] at he
              exact absurd he (nb i (by omega))
            · rw [pk_un (by omega), pk_un (by omega)] at he
              exact w7 i j (by omega) (by omega) he
      · refine ⟨m', w4, by rw [pk_un z]; exact w5, fun i hi => ?_, fun i j hi hj he => ?_⟩
        · obtain ⟨l', c, x1, x2, x3, x4, x5⟩ := w6 i hi
          rw [pk_un (by omega), pk_un (by omega)]
          exact ⟨l', c, x1, x2, x3, x4, pk c n hn x5⟩
        · rw [pk_un (by omega), pk_un (by omega)] at he
          exact w7 i j hi hj he
    · exact Or.inr (Or.inr (Or.inl ⟨w1, w2, w3, a, w4, w5, pk a n hn w6⟩))
    · exact Or.inr (Or.inr (Or.inr ⟨w1, w2, w3, a, b', w4, w5, w6, w7, w8, pk a n hn w9, pk b' n hn w10⟩))
/-! types -/
def oc_lc (tm : Nat → Int32) (t : Nat) : Nat := oc_sm (fun l => if tm (t * 16 + l) = -1 then 0 else 1) 16
theorem oc_lc_16 (tm : Nat → Int32) (t : Nat) : oc_lc tm t ≤ 16 := oc_sm_n 16 fun l _ => by
  split <;> omega
def oc_Ty (tc : Nat) (tm mk : Nat → Int32) : Prop :=
  (∀ l, l < 16 → tm l = -1) ∧ ∀ t, t < tc → mk t = nI (oc_lc tm t) ∧ ∀ l, l < 16 → tm (t * 16 + l) = -1 ∨ ∃ m, m < tc ∧ tm (t * 16 + l) = nI m
/-- the row of type t copied to type n up to label l -/
def oc_tc (tm : Nat → Int32) (t n : Nat) : Nat → Nat → Int32
  | 0 => tm
  | l + 1 => upd (oc_tc tm t n l) (n * 16 + l) (oc_tc tm t n l (t * 16 + l))
theorem oc_tc_lo {tm : Nat → Int32} {t n : Nat} : ∀ l j, j < n * 16 → oc_tc tm t n l j = tm j
  | 0, _, _ => rfl
  | l + 1, j, h => by rw [oc_tc, pk_un (by omega), oc_tc_lo l j h]
theorem oc_tc_hi {tm : Nat → Int32} {t n : Nat} (h : t < n) : ∀ l j, j < l → l ≤ 16 → oc_tc tm t n l (n * 16 + j) = tm (t * 16 + j)
  | 0, _, h1, _ => absurd h1 (Nat.not_lt_zero _)
  | l + 1, j, h1, h2 => by
    rw [oc_tc]
    by_cases e : j = l
    · rw [e, pk_us, oc_tc_lo l _ (by omega)]
    · rw [pk_un (by omega)]
      exact oc_tc_hi h l j (by omega) (by omega)
theorem oc_sm_up {f g : Nat → Nat} {k : Nat} : ∀ N, k < N → (∀ i, i < N → i ≠ k → f i = g i) → f k = 0 → g k = 1 → oc_sm g N = oc_sm f N + 1
  | 0, h, _, _, _ => absurd h (Nat.not_lt_zero _)
  | N + 1, h, e, h0, h1 => by
    rw [oc_sm, oc_sm]
    by_cases z : k = N
    · subst z
      rw [h0, h1, oc_sm_cg (f := f) (g := g) k fun i hi => e i (by omega) (by omega)]
    · rw [oc_sm_up (f := f) N (by omega) (fun i hi ne => e i (by omega) ne) h0 h1, e N (by omega) (by omega)]
      omega
theorem oc_Ty_new {tc t l m : Nat} {tm mk : Nat → Int32} (h : oc_Ty tc tm mk) (h2 : 2 ≤ tc) (ht : t < tc) (hl : l < 16) (hm : m < tc) (hs : tc < 2 ^ 20) (e : tm (t * 16 + l) = -1) :
    oc_Ty (tc + 1) (upd (oc_tc tm t tc 16) (tc * 16 + l) (nI m)) (upd mk tc (nI (oc_lc tm t + 1))) := by
  have lo : ∀ j, j < tc * 16 → upd (oc_tc tm t tc 16) (tc * 16 + l) (nI m) j = tm j := fun j hj => by
    rw [pk_un (by omega), oc_tc_lo 16 j hj]
  have hi : ∀ j, j < 16 → j ≠ l → upd (oc_tc tm t tc 16) (tc * 16 + l) (nI m) (tc * 16 + j) = tm (t * 16 + j) := fun j hj ne => by
    rw [pk_un (by omega), oc_tc_hi ht 16 j hj (Nat.le_refl _)]
  refine ⟨fun j hj => by rw [lo j (by omega)]; exact h.1 j hj, fun q hq => ?_⟩
  by_cases z : q = tc
  · subst z
    refine ⟨?_, fun j hj => ?_⟩
    · rw [pk_us]
      refine congrArg nI (Eq.symm ?_)
      refine oc_sm_up (k := l) 16 hl (fun i hi' ne => ?_) (if_pos e) ?_
      · show (if tm (t * 16 + i) = -1 then 0 else 1) = (if upd (oc_tc tm t q 16) (q * 16 + l) (nI m) (q * 16 + i) = -1 then 0 else 1)
        rw [hi i hi' ne]
      · show (if upd (oc_tc tm t q 16) (q * 16 + l) (nI m) (q * 16 + l) = -1 then 0 else 1) = 1
        rw [pk_us, if_neg (oc_m1 (by omega))]
    · by_cases y : j = l
      · rw [y, pk_us]; exact Or.inr ⟨m, by omega, rfl⟩
      · rw [hi j hj y]
        rcases (h.2 t ht).2 j hj with w | ⟨m', w1, w2⟩
        · exact Or.inl w
        · exact Or.inr ⟨m', by omega, w2⟩
  · have hq' : q < tc := by omega
    refine ⟨?_, fun j hj => ?_⟩
    · rw [pk_un z, (h.2 q hq').1]
      refine congrArg nI ?_
      refine oc_sm_cg 16 fun i hi' => ?_
      rw [lo _ (by omega)]
    · rw [lo _ (by omega)]
      rcases (h.2 q hq').2 j hj with w | ⟨m', w1, w2⟩
      · exact Or.inl w
      · exact Or.inr ⟨m', by omega, w2⟩
def oc_sub (tm : Nat → Int32) (a b : Nat) : Prop := a = b ∨ b = 0 ∨ (¬ a = 0 ∧ ∀ l, l < 16 → tm (b * 16 + l) = -1 ∨ tm (a * 16 + l) = tm (b * 16 + l))
