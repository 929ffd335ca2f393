section
/-! pasted from kit/rows: pk_us to pk_cl -/
theorem pk_us {f : Nat → Int32} {k : Nat} {x : Int32} : upd f k x k = x := if_pos rfl
theorem pk_un {f : Nat → Int32} {k j : Nat} {x : Int32} (h : j ≠ k) : upd f k x j = f j := if_neg h
theorem pk_sub {a b : Nat} (h : b ≤ a) : nI a - nI b = nI (a - b) := by
  obtain ⟨c, rfl⟩ : ∃ c, a = c + b := ⟨a - b, by omega⟩
  rw [← nI_add, Int32.add_sub_cancel, Nat.add_sub_cancel]
theorem pk_m1 (n : Nat) : nI (n + 1) + (-1) = nI n := by
  rw [← nI_1, Int32.add_assoc, show (1 : Int32) + (-1) = 0 from rfl, Int32.add_zero]
theorem pk_mul (a b : Nat) : nI a * nI b = nI (a * b) := (Int32.ofNat_mul a b).symm
theorem pk_ix (x : Int32) {n : Nat} (hn : n < 2 ^ 31) : x < 0 ∨ nI n ≤ x ∨ ∃ j : Nat, j < n ∧ x = nI j := by
  by_cases h : x < 0
  · exact Or.inl h
  · obtain ⟨j, hj, rfl⟩ := nI_of h
    by_cases h2 : j < n
    · exact Or.inr (Or.inr ⟨j, h2, rfl⟩)
    · exact Or.inr (Or.inl (nI_le (by omega) hj))
theorem pk_le {x y : Int32} {A B : Prop} (a b : Nat) (f : a ≤ b → A) (g : b < a → B) (hx : x = nI a := by rfl) (hy : y = nI b := by rfl) (ha : a < 2 ^ 31 := by omega) (hb : b < 2 ^ 31 := by omega) : (x ≤ y → A) ∧ (¬ x ≤ y → B) := by
  subst hx hy
  rw [nI_leI ha hb]
  exact ⟨f, fun z => g (by omega)⟩
theorem pk_lt {x y : Int32} {A B : Prop} (a b : Nat) (f : a < b → A) (g : b ≤ a → B) (hx : x = nI a := by rfl) (hy : y = nI b := by rfl) (ha : a < 2 ^ 31 := by omega) (hb : b < 2 ^ 31 := by omega) : (x < y → A) ∧ (¬ x < y → B) := by
  subst hx hy
  rw [nI_ltI ha hb]
  exact ⟨f, fun z => g (by omega)⟩
theorem pk_eq {x y : Int32} {A B : Prop} (a b : Nat) (f : a = b → A) (g : a ≠ b → B) (hx : x = nI a := by rfl) (hy : y = nI b := by rfl) (ha : a < 2 ^ 31 := by omega) (hb : b < 2 ^ 31 := by omega) : (x = y → A) ∧ (¬ x = y → B) := by
  subst hx hy
  rw [nI_eq ha hb]
  exact ⟨f, g⟩
theorem pk_in {x : Int32} (n N : Nat) (h : n < N) (hx : x = nI n := by rfl) (hN : N < 2 ^ 31 := by omega) : vp_in x N := by
  subst hx
  exact vp_in_nI h hN
theorem pk_cl {x : Int32} (n : Nat) (hx : x = nI n := by rfl) (h : n < 2 ^ 31 := by omega) : x.toNatClampNeg = n := by
  subst hx
  exact nI_clamp h
/-! own rows: ints below nought, stores -/
theorem oc_m1 {n : Nat} (h : n < 2 ^ 31) : ¬ nI n = -1 := fun e => by
  have h1 := congrArg Int32.toInt e
  have h2 : (-1 : Int32).toInt = -1 := by decide
  rw [nI_toInt h, h2] at h1
  omega
theorem oc_m1' {n : Nat} (h : n < 2 ^ 31) : ¬ (-1 : Int32) = nI n := fun e => oc_m1 h e.symm
theorem oc_c1 : (-1 : Int32).toNatClampNeg = 0 := by decide
theorem oc_m0 : (-1 : Int32) < 0 := by decide
theorem oc_uu (f : Nat → Int32) (k : Nat) (x y : Int32) : upd (upd f k x) k y = upd f k y := funext fun j => by
  by_cases h : j = k
  · rw [h, pk_us, pk_us]
  · rw [pk_un h, pk_un h, pk_un h]
theorem oc_ui (f : Nat → Int32) (k : Nat) {x : Int32} (e : f k = x) : upd f k x = f := funext fun j => by
  by_cases h : j = k
  · rw [h, pk_us, e]
  · rw [pk_un h]
theorem oc_uc (f : Nat → Int32) {k j : Nat} (x y : Int32) (h : k ≠ j) : upd (upd f k x) j y = upd (upd f j y) k x := funext fun i => by
  by_cases h1 : i = k
  · by_cases h2 : i = j
    · omega
    · rw [h1, pk_un h, pk_us, pk_us]
  · by_cases h2 : i = j
    · rw [pk_un h1, h2, pk_us, pk_us]
    · rw [pk_un h2, pk_un h1, pk_un h1, pk_un h2]
/-! sums -/
def oc_sm (f : Nat → Nat) : Nat → Nat
  | 0 => 0
  | n + 1 => oc_sm f n + f n
theorem oc_sm_le {f g : Nat → Nat} : ∀ N, (∀ i, i < N → f i ≤ g i) → oc_sm f N ≤ oc_sm g N
  | 0, _ => Nat.le_refl _
  | N + 1, h => Nat.add_le_add (oc_sm_le N fun i hi => h i (by omega)) (h N (by omega))
theorem oc_sm_cg {f g : Nat → Nat} : ∀ N, (∀ i, i < N → f i = g i) → oc_sm f N = oc_sm g N
  | 0, _ => rfl
  | N + 1, h => by rw [oc_sm, oc_sm, oc_sm_cg N fun i hi => h i (by omega), h N (by omega)]
theorem oc_sm_add (f g : Nat → Nat) : ∀ N, oc_sm (fun i => f i + g i) N = oc_sm f N + oc_sm g N
  | 0 => rfl
  | N + 1 => by rw [oc_sm, oc_sm, oc_sm, oc_sm_add f g N]; omega
theorem oc_sm_0 : ∀ N, oc_sm (fun _ => 0) N = 0
  | 0 => rfl
  | N + 1 => by rw [oc_sm, oc_sm_0 N]
theorem oc_sm_x (F : Nat → Nat → Nat) (N : Nat) : ∀ M, oc_sm (fun i => oc_sm (fun m => F i m) N) M = oc_sm (fun m => oc_sm (fun i => F i m) M) N
  | 0 => (oc_sm_0 N).symm
  | M + 1 => by
    rw [oc_sm, oc_sm_x F N M, ← oc_sm_add]
    rfl
theorem oc_sm_1 (f : Nat → Nat) {k : Nat} : ∀ N, k < N → f k ≤ oc_sm f N
  | 0, h => absurd h (Nat.not_lt_zero _)
  | N + 1, h => by
    rw [oc_sm]
    by_cases e : k = N
    · rw [e]; omega
    · have := oc_sm_1 f (k := k) N (by omega); omega
theorem oc_sm_z {f : Nat → Nat} (N : Nat) (h : ∀ i, i < N → f i = 0) : oc_sm f N = 0 := by
  rw [oc_sm_cg (g := fun _ => 0) N h, oc_sm_0]
theorem oc_sm_n {f : Nat → Nat} : ∀ N, (∀ i, i < N → f i ≤ 1) → oc_sm f N ≤ N
  | 0, _ => Nat.le_refl _
  | N + 1, h => Nat.add_le_add (oc_sm_n N fun i hi => h i (by omega)) (h N (by omega))
theorem oc_sm_u {f : Nat → Nat} : ∀ N, (∀ i, i < N → f i ≤ 1) → (∀ i j, i < N → j < N → f i = 1 → f j = 1 → i = j) → oc_sm f N ≤ 1
  | 0, _, _ => Nat.zero_le _
  | N + 1, h, u => by
    rw [oc_sm]
    have h1 := h N (by omega)
    by_cases e : f N = 1
    · rw [oc_sm_z N fun i hi => ?_]
      · omega
      · have a := h i (by omega)
        by_cases z : f i = 1
        · have := u i N (by omega) (by omega) z e; omega
        · omega
    · have := oc_sm_u N (fun i hi => h i (by omega)) (fun i j hi hj => u i j (by omega) (by omega))
      omega
/-! climbing by parents -/
def oc_li (par : Nat → Int32) (r n : Nat) : Bool :=
  if n = r then true
  else if h : n < (par n).toNatClampNeg ∧ (par n).toNatClampNeg < 32 then oc_li par r (par n).toNatClampNeg
  else false
termination_by 32 - n
decreasing_by omega
def oc_bo (par kd bod : Nat → Int32) (r n k : Nat) : Int :=
  if n = r then -1
  else if h : n < (par n).toNatClampNeg ∧ (par n).toNatClampNeg < 32 then
    (if kd (par n).toNatClampNeg = 1 ∨ bod (par n).toNatClampNeg = nI n then
      (if k = 0 then ((par n).toNatClampNeg : Int) else oc_bo par kd bod r (par n).toNatClampNeg (k - 1))
    else oc_bo par kd bod r (par n).toNatClampNeg k)
  else -2
termination_by 32 - n
decreasing_by all_goals omega
def oc_dp (par kd bod : Nat → Int32) (r n : Nat) : Nat :=
  if n = r then 0
  else if h : n < (par n).toNatClampNeg ∧ (par n).toNatClampNeg < 32 then
    (if kd (par n).toNatClampNeg = 1 ∨ bod (par n).toNatClampNeg = nI n then 1 else 0) + oc_dp par kd bod r (par n).toNatClampNeg
  else 0
termination_by 32 - n
decreasing_by omega
theorem oc_cl {par : Nat → Int32} {n p : Nat} (e : par n = nI p) (h2 : p < 32) : (par n).toNatClampNeg = p := by
  rw [e, nI_clamp (by omega)]
theorem oc_cl1 {par : Nat → Int32} {n : Nat} (e : par n = -1) : (par n).toNatClampNeg = 0 := by rw [e]; decide
theorem oc_li_r (par : Nat → Int32) (r : Nat) : oc_li par r r = true := by rw [oc_li, if_pos rfl]
theorem oc_li_s {par : Nat → Int32} {r n p : Nat} (e : par n = nI p) (h1 : n < p) (h2 : p < 32) (hr : n ≠ r) : oc_li par r n = oc_li par r p := by
  have c := oc_cl e h2
  rw [oc_li, if_neg hr, dif_pos (by rw [c]; exact ⟨h1, h2⟩), c]
theorem oc_li_n {par : Nat → Int32} {r n : Nat} (e : par n = -1) (hr : n ≠ r) : oc_li par r n = false := by
  have c := oc_cl1 e
  rw [oc_li, if_neg hr, dif_neg (by rw [c]; omega)]
theorem oc_bo_r (par kd bod : Nat → Int32) (r k : Nat) : oc_bo par kd bod r r k = -1 := by rw [oc_bo, if_pos rfl]
theorem oc_bo_n {par kd bod : Nat → Int32} {r n k : Nat} (e : par n = -1) (hr : n ≠ r) : oc_bo par kd bod r n k = -2 := by
  have c := oc_cl1 e
  rw [oc_bo, if_neg hr, dif_neg (by rw [c]; omega)]
theorem oc_bo_0 {par kd bod : Nat → Int32} {r n p : Nat} (e : par n = nI p) (h1 : n < p) (h2 : p < 32) (hr : n ≠ r) (b : kd p = 1 ∨ bod p = nI n) : oc_bo par kd bod r n 0 = (p : Int) := by
  have c := oc_cl e h2
  rw [oc_bo, if_neg hr, dif_pos (by rw [c]; exact ⟨h1, h2⟩), c, if_pos b, if_pos rfl]
theorem oc_bo_1 {par kd bod : Nat → Int32} {r n p k : Nat} (e : par n = nI p) (h1 : n < p) (h2 : p < 32) (hr : n ≠ r) (b : kd p = 1 ∨ bod p = nI n) : oc_bo par kd bod r n (k + 1) = oc_bo par kd bod r p k := by
  have c := oc_cl e h2
  rw [oc_bo, if_neg hr, dif_pos (by rw [c]; exact ⟨h1, h2⟩), c, if_pos b, if_neg (by omega), Nat.add_sub_cancel]
theorem oc_bo_2 {par kd bod : Nat → Int32} {r n p k : Nat} (e : par n = nI p) (h1 : n < p) (h2 : p < 32) (hr : n ≠ r) (b : ¬ (kd p = 1 ∨ bod p = nI n)) : oc_bo par kd bod r n k = oc_bo par kd bod r p k := by
  have c := oc_cl e h2
  rw [oc_bo, if_neg hr, dif_pos (by rw [c]; exact ⟨h1, h2⟩), c, if_neg b]
theorem oc_dp_1 {par kd bod : Nat → Int32} {r n p : Nat} (e : par n = nI p) (h1 : n < p) (h2 : p < 32) (hr : n ≠ r) (b : kd p = 1 ∨ bod p = nI n) : oc_dp par kd bod r n = oc_dp par kd bod r p + 1 := by
  have c := oc_cl e h2
  rw [oc_dp, if_neg hr, dif_pos (by rw [c]; exact ⟨h1, h2⟩), c, if_pos b, Nat.add_comm]
theorem oc_dp_2 {par kd bod : Nat → Int32} {r n p : Nat} (e : par n = nI p) (h1 : n < p) (h2 : p < 32) (hr : n ≠ r) (b : ¬ (kd p = 1 ∨ bod p = nI n)) : oc_dp par kd bod r n = oc_dp par kd bod r p := by
  have c := oc_cl e h2
  rw [oc_dp, if_neg hr, dif_pos (by rw [c]; exact ⟨h1, h2⟩), c, if_neg b, Nat.zero_add]
theorem oc_dp_r (par kd bod : Nat → Int32) (r : Nat) : oc_dp par kd bod r r = 0 := by rw [oc_dp, if_pos rfl]
def oc_Pa (par : Nat → Int32) (nc : Nat) : Prop := ∀ n, n < nc → par n = -1 ∨ ∃ p, n < p ∧ p < nc ∧ par n = nI p
theorem oc_up {nc : Nat} {P : Nat → Prop} (h : ∀ n, n < nc → (∀ m, n < m → m < nc → P m) → P n) : ∀ n, n < nc → P n := by
  have key : ∀ d n, n < nc → nc - n ≤ d → P n := by
    intro d
    induction d with
    | zero => intro n h1 h2; omega
    | succ d ih => intro n h1 h2; exact h n h1 fun m a b => ih m b (by omega)
  exact fun n hn => key (nc - n) n hn (Nat.le_refl _)
theorem oc_li_le {par : Nat → Int32} {nc r : Nat} (hP : oc_Pa par nc) (h32 : nc ≤ 32) : ∀ n, n < nc → oc_li par r n = true → n ≤ r := by
  refine oc_up fun n hn ih hl => ?_
  by_cases e : n = r
  · omega
  rcases hP n hn with h | ⟨p, h1, h2, h3⟩
  · rw [oc_li_n h e] at hl; exact absurd hl (by decide)
  · rw [oc_li_s h3 h1 (by omega) e] at hl
    have := ih p h1 h2 hl
    omega
theorem oc_li_c {par : Nat → Int32} {nc c n : Nat} (hP : oc_Pa par nc) (h32 : nc ≤ 32) (hn : n < nc) (hc : c < n) (e : par c = nI n) : ∀ m, m < nc → oc_li par c m = true → oc_li par n m = true := by
  refine oc_up fun m hm ih hl => ?_
  have le := oc_li_le hP h32 m hm hl
  by_cases z : m = c
  · subst z
    rw [oc_li_s e hc (by omega) (by omega)]
    exact oc_li_r _ _
  rcases hP m hm with h | ⟨p, h1, h2, h3⟩
  · rw [oc_li_n h z] at hl; exact absurd hl (by decide)
  · rw [oc_li_s h3 h1 (by omega) z] at hl
    rw [oc_li_s h3 h1 (by omega) (by omega)]
    exact ih p h1 h2 hl
theorem oc_li_d {par : Nat → Int32} {nc c c' n : Nat} (hP : oc_Pa par nc) (h32 : nc ≤ 32) (hn : n < nc) (hc : c < n) (e : par c = nI n) (hc' : c' < n) (e' : par c' = nI n) (ne : c ≠ c') : ∀ m, m < nc → oc_li par c m = true → oc_li par c' m = true → False := by
  refine oc_up fun m hm ih hl hl' => ?_
  by_cases z : m = c
  · subst z
    rw [oc_li_s e hc (by omega) ne] at hl'
    have := oc_li_le hP h32 n hn hl'
    omega
  by_cases z' : m = c'
  · subst z'
    rw [oc_li_s e' hc' (by omega) z] at hl
    have := oc_li_le hP h32 n hn hl
    omega
  rcases hP m hm with h | ⟨p, h1, h2, h3⟩
  · rw [oc_li_n h z] at hl; exact absurd hl (by decide)
  · rw [oc_li_s h3 h1 (by omega) z] at hl
    rw [oc_li_s h3 h1 (by omega) z'] at hl'
    exact ih p h1 h2 hl hl'
def oc_sz (par : Nat → Int32) (nc n : Nat) : Nat := oc_sm (fun m => if oc_li par n m = true then 1 else 0) nc
theorem oc_sz_n (par : Nat → Int32) (nc n : Nat) : oc_sz par nc n ≤ nc := oc_sm_n _ fun i _ => by
  split <;> omega
theorem oc_sz_c {par : Nat → Int32} {nc n : Nat} (hP : oc_Pa par nc) (h32 : nc ≤ 32) (hn : n < nc) (c : Nat → Nat) (M : Nat) (h1 : ∀ i, i < M → c i < n ∧ par (c i) = nI n) (h2 : ∀ i j, i < M → j < M → c i = c j → i = j) : oc_sm (fun i => oc_sz par nc (c i)) M + 1 ≤ oc_sz par nc n := by
  have a : oc_sm (fun i => oc_sz par nc (c i)) M = oc_sm (fun m => oc_sm (fun i => if oc_li par (c i) m = true then 1 else 0) M) nc := oc_sm_x (fun i m => if oc_li par (c i) m = true then 1 else 0) nc M
  have b : 1 ≤ oc_sm (fun m => if m = n then 1 else 0) nc := by
    have := oc_sm_1 (fun m => if m = n then 1 else 0) (k := n) nc hn
    rw [if_pos rfl] at this
    exact this
  have d : oc_sm (fun m => oc_sm (fun i => if oc_li par (c i) m = true then 1 else 0) M + (if m = n then 1 else 0)) nc ≤ oc_sz par nc n := by
    refine oc_sm_le nc fun m hm => ?_
    by_cases e : m = n
    · have z : oc_sm (fun i => if oc_li par (c i) m = true then 1 else 0) M = 0 := oc_sm_z M fun i hi => by
        by_cases w : oc_li par (c i) m = true
        · have := oc_li_le hP h32 m hm w
          have := (h1 i hi).1
          omega
        · exact if_neg w
      rw [z, if_pos e, e, if_pos (oc_li_r _ _)] <;> omega
    · rw [if_neg e]
      by_cases w : ∃ i, i < M ∧ oc_li par (c i) m = true
      · obtain ⟨i, hi, hl⟩ := w
        rw [if_pos (oc_li_c hP h32 hn (h1 i hi).1 (h1 i hi).2 m hm hl)]
        refine oc_sm_u M (fun i _ => ?_) (fun i j hi hj x y => ?_)
        · split <;> omega
        · have x' : oc_li par (c i) m = true := Decidable.byContradiction fun q => by rw [if_neg q] at x; omega
          have y' : oc_li par (c j) m = true := Decidable.byContradiction fun q => by rw [if_neg q] at y; omega
          exact Decidable.byContradiction fun ne => oc_li_d hP h32 hn (h1 i hi).1 (h1 i hi).2 (h1 j hj).1 (h1 j hj).2 (fun q => ne (h2 i j hi hj q)) m hm x' y'
      · have z : oc_sm (fun i => if oc_li par (c i) m = true then 1 else 0) M = 0 := oc_sm_z M fun i hi => if_neg fun q => w ⟨i, hi, q⟩
        rw [z]
        omega
  rw [oc_sm_add] at d
  omega
/-! the binder found by climbing, and the number of binders above -/
theorem oc_bo_li {par kd bod : Nat → Int32} {nc r : Nat} (hP : oc_Pa par nc) (h32 : nc ≤ 32) : ∀ n, n < nc → ∀ k, oc_bo par kd bod r n k = -1 → oc_li par r n = true := by
  refine oc_up fun n hn ih k hb => ?_
  by_cases e : n = r
  · subst e; exact oc_li_r _ _
  rcases hP n hn with h | ⟨p, h1, h2, h3⟩
  · rw [oc_bo_n h e] at hb; omega
  · rw [oc_li_s h3 h1 (by omega) e]
    by_cases b : kd p = 1 ∨ bod p = nI n
    · cases k with
      | zero => rw [oc_bo_0 h3 h1 (by omega) e b] at hb; omega
      | succ k => rw [oc_bo_1 h3 h1 (by omega) e b] at hb; exact ih p h1 h2 k hb
    · rw [oc_bo_2 h3 h1 (by omega) e b] at hb; exact ih p h1 h2 k hb
theorem oc_bo_m2 {par kd bod : Nat → Int32} {nc r : Nat} (hP : oc_Pa par nc) (h32 : nc ≤ 32) : ∀ n, n < nc → ∀ k, oc_li par r n = true → ¬ oc_bo par kd bod r n k = -2 := by
  refine oc_up fun n hn ih k hl hb => ?_
  by_cases e : n = r
  · subst e; rw [oc_bo_r] at hb; omega
  rcases hP n hn with h | ⟨p, h1, h2, h3⟩
  · rw [oc_li_n h e] at hl; exact absurd hl (by decide)
  · rw [oc_li_s h3 h1 (by omega) e] at hl
    by_cases b : kd p = 1 ∨ bod p = nI n
    · cases k with
      | zero => rw [oc_bo_0 h3 h1 (by omega) e b] at hb; omega
      | succ k => rw [oc_bo_1 h3 h1 (by omega) e b] at hb; exact ih p h1 h2 k hl hb
    · rw [oc_bo_2 h3 h1 (by omega) e b] at hb; exact ih p h1 h2 k hl hb
theorem oc_bo_dp {par kd bod : Nat → Int32} {nc r : Nat} (hP : oc_Pa par nc) (h32 : nc ≤ 32) : ∀ n, n < nc → ∀ k, oc_li par r n = true → ¬ oc_bo par kd bod r n k = -1 → k < oc_dp par kd bod r n := by
  refine oc_up fun n hn ih k hl hb => ?_
  by_cases e : n = r
  · subst e; exact absurd (oc_bo_r _ _ _ _ _) hb
  rcases hP n hn with h | ⟨p, h1, h2, h3⟩
  · rw [oc_li_n h e] at hl; exact absurd hl (by decide)
  · rw [oc_li_s h3 h1 (by omega) e] at hl
    by_cases b : kd p = 1 ∨ bod p = nI n
    · rw [oc_dp_1 h3 h1 (by omega) e b]
      cases k with
      | zero => omega
      | succ k =>
        rw [oc_bo_1 h3 h1 (by omega) e b] at hb
        have := ih p h1 h2 k hl hb
        omega
    · rw [oc_dp_2 h3 h1 (by omega) e b]
      rw [oc_bo_2 h3 h1 (by omega) e b] at hb
      exact ih p h1 h2 k hl hb
theorem oc_bo_3 {par kd bod : Nat → Int32} {nc r : Nat} (hP : oc_Pa par nc) (h32 : nc ≤ 32) : ∀ n, n < nc → ∀ k, oc_bo par kd bod r n k = -1 ∨ oc_bo par kd bod r n k = -2 ∨ ∃ p m : Nat, p < nc ∧ m < nc ∧ oc_bo par kd bod r n k = (p : Int) ∧ (kd p = 1 ∨ bod p = nI m) := by
  refine oc_up fun n hn ih k => ?_
  by_cases e : n = r
  · subst e; exact Or.inl (oc_bo_r _ _ _ _ _)
  rcases hP n hn with h | ⟨p, h1, h2, h3⟩
  · exact Or.inr (Or.inl (oc_bo_n h e))
  · by_cases b : kd p = 1 ∨ bod p = nI n
    · cases k with
      | zero => exact Or.inr (Or.inr ⟨p, n, h2, hn, oc_bo_0 h3 h1 (by omega) e b, b⟩)
      | succ k => rw [oc_bo_1 h3 h1 (by omega) e b]; exact ih p h1 h2 k
    · rw [oc_bo_2 h3 h1 (by omega) e b]; exact ih p h1 h2 k
end
section
/-! the invariant of nodes and types -/
def oc_Nc (nc tc : Nat) (kd par num ann rcv bod mc ml mb : Nat → Int32) (n : Nat) : Prop :=
  (par n = -1 ∨ ∃ p, n < p ∧ p < nc ∧ par n = nI p) ∧
  ((kd n = 0 ∧ bod n = -1 ∧ ∃ k, k < 16 ∧ num n = nI k) ∨
   (kd n = 1 ∧ bod n = -1 ∧ (∃ A, A < tc ∧ ann n = nI A) ∧ ∃ m, m ≤ 8 ∧ mc n = nI m ∧
      (∀ i, i < m → ∃ l b, l < 16 ∧ ml (n * 8 + i) = nI l ∧ b < n ∧ mb (n * 8 + i) = nI b ∧ par b = nI n) ∧
      (∀ i j, i < m → j < m → mb (n * 8 + i) = mb (n * 8 + j) → i = j)) ∨
   (kd n = 2 ∧ bod n = -1 ∧ (∃ l, l < 16 ∧ num n = nI l) ∧ ∃ a, a < n ∧ rcv n = nI a ∧ par a = nI n) ∨
   (kd n = 3 ∧ (∃ l, l < 16 ∧ num n = nI l) ∧ (∃ A, A < tc ∧ ann n = nI A) ∧
      ∃ a b, a < n ∧ b < n ∧ a ≠ b ∧ rcv n = nI a ∧ bod n = nI b ∧ par a = nI n ∧ par b = nI n))
def oc_Nd (nc tc : Nat) (kd par num ann rcv bod mc ml mb : Nat → Int32) : Prop :=
  ∀ n, n < nc → oc_Nc nc tc kd par num ann rcv bod mc ml mb n
theorem oc_Nd_Pa {nc tc : Nat} {kd par num ann rcv bod mc ml mb : Nat → Int32} (h : oc_Nd nc tc kd par num ann rcv bod mc ml mb) : oc_Pa par nc := fun n hn => (h n hn).1
theorem oc_Nd_tc {nc tc tc' : Nat} {kd par num ann rcv bod mc ml mb : Nat → Int32} (h : oc_Nd nc tc kd par num ann rcv bod mc ml mb) (ht : tc ≤ tc') : oc_Nd nc tc' kd par num ann rcv bod mc ml mb := fun n hn => by
  obtain ⟨h1, h2 | ⟨k1, k2, ⟨A, a1, a2⟩, k3⟩ | h2 | ⟨k1, k2, ⟨A, a1, a2⟩, k3⟩⟩ := h n hn
  · exact ⟨h1, Or.inl h2⟩
  · exact ⟨h1, Or.inr (Or.inl ⟨k1, k2, ⟨A, by omega, a2⟩, k3⟩)⟩
  · exact ⟨h1, Or.inr (Or.inr (Or.inl h2))⟩
  · exact ⟨h1, Or.inr (Or.inr (Or.inr ⟨k1, k2, ⟨A, by omega, a2⟩, k3⟩))⟩
theorem oc_Nd_new {nc tc : Nat} {kd par num ann rcv bod mc ml mb kd' par' num' ann' rcv' bod' : Nat → Int32} (hc : nc ≤ 32) (h : oc_Nd nc tc kd par num ann rcv bod mc ml mb)
    (e : ∀ n, n < nc → kd' n = kd n ∧ num' n = num n ∧ ann' n = ann n ∧ rcv' n = rcv n ∧ bod' n = bod n)
    (ep : ∀ n, n < nc → par' n = par n ∨ (par n = -1 ∧ par' n = nI nc))
    (hn : oc_Nc (nc + 1) tc kd' par' num' ann' rcv' bod' mc ml mb nc) : oc_Nd (nc + 1) tc kd' par' num' ann' rcv' bod' mc ml mb := fun n hlt => by
  by_cases z : n = nc
  · rw [z]; exact hn
  have hn' : n < nc := by omega
  obtain ⟨e1, e2, e3, e4, e5⟩ := e n hn'
  have pk : ∀ b, b < n → par b = nI n → par' b = nI n := fun b hb hp => by
    rcases ep b (by omega) with q | ⟨q, -⟩
    · rw [q, hp]
    · rw [q] at hp; exact absurd hp (oc_m1' (by omega))
  obtain ⟨h1, h2⟩ := h n hn'
  refine ⟨?_, ?_⟩
  · rcases ep n hn' with q | ⟨-, q⟩
    · rw [q]
      rcases h1 with w | ⟨p, w1, w2, w3⟩
      · exact Or.inl w
      · exact Or.inr ⟨p, w1, by omega, w3⟩
    · exact Or.inr ⟨nc, hn', by omega, q⟩
  · rw [e1, e2, e3, e4, e5]
    rcases h2 with w | ⟨w1, w2, w3, m, w4, w5, w6, w7⟩ | ⟨w1, w2, w3, a, w4, w5, w6⟩ | ⟨w1, w2, w3, a, b, w4, w5, w6, w7, w8, w9, w10⟩
    · exact Or.inl w
    · refine Or.inr (Or.inl ⟨w1, w2, w3, m, w4, w5, fun i hi => ?_, w7⟩)
      obtain ⟨l, b, x1, x2, x3, x4, x5⟩ := w6 i hi
      exact ⟨l, b, x1, x2, x3, x4, pk b x3 x5⟩
    · exact Or.inr (Or.inr (Or.inl ⟨w1, w2, w3, a, w4, w5, pk a w4 w6⟩))
    · exact Or.inr (Or.inr (Or.inr ⟨w1, w2, w3, a, b, w4, w5, w6, w7, w8, pk a w4 w9, pk b w5 w10⟩))
theorem oc_Nd_add {nc tc o b m l : Nat} {kd par num ann rcv bod mc ml mb : Nat → Int32} (hc : nc ≤ 32) (h : oc_Nd nc tc kd par num ann rcv bod mc ml mb)
    (ho : o < nc) (hk : kd o = 1) (hb : b < o) (hp : par b = -1) (hm : mc o = nI m) (hm8 : m < 8) (hl : l < 16) :
    oc_Nd nc tc kd (upd par b (nI o)) num ann rcv bod (upd mc o (nI (m + 1))) (upd ml (o * 8 + m) (nI l)) (upd mb (o * 8 + m) (nI b)) := fun n hn => by
  have pk : ∀ c q, q < nc → par c = nI q → upd par b (nI o) c = nI q := fun c q hq he => by
    by_cases z : c = b
    · rw [z, hp] at he; exact absurd he (oc_m1' (by omega))
    · rw [pk_un z, he]
  obtain ⟨h1, h2⟩ := h n hn
  refine ⟨?_, ?_⟩
  · by_cases z : n = b
    · exact Or.inr ⟨o, by omega, ho, by rw [z, pk_us]⟩
    · rw [pk_un z]; exact h1
  · rcases h2 with w | ⟨w1, w2, w3, m', w4, w5, w6, w7⟩ | ⟨w1, w2, w3, a, w4, w5, w6⟩ | ⟨w1, w2, w3, a, b', w4, w5, w6, w7, w8, w9, w10⟩
    · exact Or.inl w
    · refine Or.inr (Or.inl ⟨w1, w2, w3, ?_⟩)
      by_cases z : n = o
      · subst z
        have e : m' = m := by
          rw [hm] at w5
          exact ((nI_eq (by omega) (by omega)).mp w5).symm
        subst e
        have nb : ∀ i, i < m' → mb (n * 8 + i) ≠ nI b := fun i hi he => by
          obtain ⟨l', c, x1, x2, x3, x4, x5⟩ := w6 i hi
          rw [x4, nI_eq (by omega) (by omega)] at he
          rw [he, hp] at x5
          exact absurd x5 (oc_m1' (by omega))
        refine ⟨m' + 1, by omega, pk_us, fun i hi => ?_, fun i j hi hj he => ?_⟩
        · by_cases y : i = m'
          · rw [y]; exact ⟨l, b, hl, pk_us, hb, pk_us, pk_us⟩
          · obtain ⟨l', c, x1, x2, x3, x4, x5⟩ := w6 i (by omega)
            rw [pk_un (by omega), pk_un (by omega)]
            exact ⟨l', c, x1, x2, x3, x4, pk c n hn x5⟩
        · by_cases y : i = m'
          · by_cases y' : j = m'
            · omega
            · rw [y, pk_us, pk_un (by omega)] at he
              exact absurd he.symm (nb j (by omega))
          · by_cases y' : j = m'
            · rw [y', pk_us, pk_un (by omega)] at he
              exact absurd he (nb i (by omega))
            · rw [pk_un (by omega), pk_un (by omega)] at he
              exact w7 i j (by omega) (by omega) he
      · refine ⟨m', w4, by rw [pk_un z]; exact w5, fun i hi => ?_, fun i j hi hj he => ?_⟩
        · obtain ⟨l', c, x1, x2, x3, x4, x5⟩ := w6 i hi
          rw [pk_un (by omega), pk_un (by omega)]
          exact ⟨l', c, x1, x2, x3, x4, pk c n hn x5⟩
        · rw [pk_un (by omega), pk_un (by omega)] at he
          exact w7 i j hi hj he
    · exact Or.inr (Or.inr (Or.inl ⟨w1, w2, w3, a, w4, w5, pk a n hn w6⟩))
    · exact Or.inr (Or.inr (Or.inr ⟨w1, w2, w3, a, b', w4, w5, w6, w7, w8, pk a n hn w9, pk b' n hn w10⟩))
/-! types -/
def oc_lc (tm : Nat → Int32) (t : Nat) : Nat := oc_sm (fun l => if tm (t * 16 + l) = -1 then 0 else 1) 16
theorem oc_lc_16 (tm : Nat → Int32) (t : Nat) : oc_lc tm t ≤ 16 := oc_sm_n 16 fun l _ => by
  split <;> omega
def oc_Ty (tc : Nat) (tm mk : Nat → Int32) : Prop :=
  (∀ l, l < 16 → tm l = -1) ∧ ∀ t, t < tc → mk t = nI (oc_lc tm t) ∧ ∀ l, l < 16 → tm (t * 16 + l) = -1 ∨ ∃ m, m < tc ∧ tm (t * 16 + l) = nI m
/-- the row of type t copied to type n up to label l -/
def oc_tc (tm : Nat → Int32) (t n : Nat) : Nat → Nat → Int32
  | 0 => tm
  | l + 1 => upd (oc_tc tm t n l) (n * 16 + l) (oc_tc tm t n l (t * 16 + l))
theorem oc_tc_lo {tm : Nat → Int32} {t n : Nat} : ∀ l j, j < n * 16 → oc_tc tm t n l j = tm j
  | 0, _, _ => rfl
  | l + 1, j, h => by rw [oc_tc, pk_un (by omega), oc_tc_lo l j h]
theorem oc_tc_hi {tm : Nat → Int32} {t n : Nat} (h : t < n) : ∀ l j, j < l → l ≤ 16 → oc_tc tm t n l (n * 16 + j) = tm (t * 16 + j)
  | 0, _, h1, _ => absurd h1 (Nat.not_lt_zero _)
  | l + 1, j, h1, h2 => by
    rw [oc_tc]
    by_cases e : j = l
    · rw [e, pk_us, oc_tc_lo l _ (by omega)]
    · rw [pk_un (by omega)]
      exact oc_tc_hi h l j (by omega) (by omega)
theorem oc_sm_up {f g : Nat → Nat} {k : Nat} : ∀ N, k < N → (∀ i, i < N → i ≠ k → f i = g i) → f k = 0 → g k = 1 → oc_sm g N = oc_sm f N + 1
  | 0, h, _, _, _ => absurd h (Nat.not_lt_zero _)
  | N + 1, h, e, h0, h1 => by
    rw [oc_sm, oc_sm]
    by_cases z : k = N
    · subst z
      rw [h0, h1, oc_sm_cg (f := f) (g := g) k fun i hi => e i (by omega) (by omega)]
    · rw [oc_sm_up (f := f) N (by omega) (fun i hi ne => e i (by omega) ne) h0 h1, e N (by omega) (by omega)]
      omega
theorem oc_Ty_new {tc t l m : Nat} {tm mk : Nat → Int32} (h : oc_Ty tc tm mk) (h2 : 2 ≤ tc) (ht : t < tc) (hl : l < 16) (hm : m < tc) (hs : tc < 2 ^ 20) (e : tm (t * 16 + l) = -1) :
    oc_Ty (tc + 1) (upd (oc_tc tm t tc 16) (tc * 16 + l) (nI m)) (upd mk tc (nI (oc_lc tm t + 1))) := by
  have lo : ∀ j, j < tc * 16 → upd (oc_tc tm t tc 16) (tc * 16 + l) (nI m) j = tm j := fun j hj => by
    rw [pk_un (by omega), oc_tc_lo 16 j hj]
  have hi : ∀ j, j < 16 → j ≠ l → upd (oc_tc tm t tc 16) (tc * 16 + l) (nI m) (tc * 16 + j) = tm (t * 16 + j) := fun j hj ne => by
    rw [pk_un (by omega), oc_tc_hi ht 16 j hj (Nat.le_refl _)]
  refine ⟨fun j hj => by rw [lo j (by omega)]; exact h.1 j hj, fun q hq => ?_⟩
  by_cases z : q = tc
  · subst z
    refine ⟨?_, fun j hj => ?_⟩
    · rw [pk_us]
      refine congrArg nI (Eq.symm ?_)
      refine oc_sm_up (k := l) 16 hl (fun i hi' ne => ?_) (if_pos e) ?_
      · show (if tm (t * 16 + i) = -1 then 0 else 1) = (if upd (oc_tc tm t q 16) (q * 16 + l) (nI m) (q * 16 + i) = -1 then 0 else 1)
        rw [hi i hi' ne]
      · show (if upd (oc_tc tm t q 16) (q * 16 + l) (nI m) (q * 16 + l) = -1 then 0 else 1) = 1
        rw [pk_us, if_neg (oc_m1 (by omega))]
    · by_cases y : j = l
      · rw [y, pk_us]; exact Or.inr ⟨m, by omega, rfl⟩
      · rw [hi j hj y]
        rcases (h.2 t ht).2 j hj with w | ⟨m', w1, w2⟩
        · exact Or.inl w
        · exact Or.inr ⟨m', by omega, w2⟩
  · have hq' : q < tc := by omega
    refine ⟨?_, fun j hj => ?_⟩
    · rw [pk_un z, (h.2 q hq').1]
      refine congrArg nI ?_
      refine oc_sm_cg 16 fun i hi' => ?_
      rw [lo _ (by omega)]
    · rw [lo _ (by omega)]
      rcases (h.2 q hq').2 j hj with w | ⟨m', w1, w2⟩
      · exact Or.inl w
      · exact Or.inr ⟨m', by omega, w2⟩
def oc_sub (tm : Nat → Int32) (a b : Nat) : Prop := a = b ∨ b = 0 ∨ (¬ a = 0 ∧ ∀ l, l < 16 → tm (b * 16 + l) = -1 ∨ tm (a * 16 + l) = tm (b * 16 + l))
end
section
/-! the typing of one node from the table of its children's -/
def oc_OB (tm ml mb rt rn : Nat → Int32) (n A : Nat) (t e : Int32) : Nat → Nat → Prop
  | 0, _ => t = nI A ∧ e = -1
  | j + 1, i => (rt (mb (n * 8 + i)).toNatClampNeg < 0 → t = rt (mb (n * 8 + i)).toNatClampNeg ∧ e = rn (mb (n * 8 + i)).toNatClampNeg) ∧
      (¬ rt (mb (n * 8 + i)).toNatClampNeg < 0 →
        (oc_sub tm (rt (mb (n * 8 + i)).toNatClampNeg).toNatClampNeg (tm (A * 16 + (ml (n * 8 + i)).toNatClampNeg)).toNatClampNeg → oc_OB tm ml mb rt rn n A t e j (i + 1)) ∧
        (¬ oc_sub tm (rt (mb (n * 8 + i)).toNatClampNeg).toNatClampNeg (tm (A * 16 + (ml (n * 8 + i)).toNatClampNeg)).toNatClampNeg → t = -7 ∧ e = nI n))
def oc_LM (tm mc ml : Nat → Int32) (n A : Nat) : Prop := mc n = nI (oc_lc tm A) ∧ ∀ i, i < (mc n).toNatClampNeg → ¬ tm (A * 16 + (ml (n * 8 + i)).toNatClampNeg) = -1
def oc_LT (tm kd par num ann rcv bod mc ml mb : Nat → Int32) (r : Nat) (rt rn : Nat → Int32) (n : Nat) (t e : Int32) : Prop :=
  (kd n = 0 → (∀ p : Nat, oc_bo par kd bod r n (num n).toNatClampNeg = (p : Int) → t = ann p ∧ e = -1) ∧
      ((∀ p : Nat, ¬ oc_bo par kd bod r n (num n).toNatClampNeg = (p : Int)) → t = -2 ∧ e = nI n)) ∧
  (kd n = 1 → (ann n = 0 → t = -3 ∧ e = nI n) ∧ (¬ ann n = 0 →
      (¬ oc_LM tm mc ml n (ann n).toNatClampNeg → t = -5 ∧ e = nI n) ∧
      (oc_LM tm mc ml n (ann n).toNatClampNeg → oc_OB tm ml mb rt rn n (ann n).toNatClampNeg t e (mc n).toNatClampNeg 0))) ∧
  (kd n = 2 → (rt (rcv n).toNatClampNeg < 0 → t = rt (rcv n).toNatClampNeg ∧ e = rn (rcv n).toNatClampNeg) ∧ (¬ rt (rcv n).toNatClampNeg < 0 →
      (rt (rcv n).toNatClampNeg = 0 → t = -3 ∧ e = nI n) ∧ (¬ rt (rcv n).toNatClampNeg = 0 →
        (tm ((rt (rcv n).toNatClampNeg).toNatClampNeg * 16 + (num n).toNatClampNeg) = -1 → t = -4 ∧ e = nI n) ∧
        (¬ tm ((rt (rcv n).toNatClampNeg).toNatClampNeg * 16 + (num n).toNatClampNeg) = -1 → t = tm ((rt (rcv n).toNatClampNeg).toNatClampNeg * 16 + (num n).toNatClampNeg) ∧ e = -1)))) ∧
  (kd n = 3 → (rt (rcv n).toNatClampNeg < 0 → t = rt (rcv n).toNatClampNeg ∧ e = rn (rcv n).toNatClampNeg) ∧ (¬ rt (rcv n).toNatClampNeg < 0 →
      (ann n = 0 → t = -3 ∧ e = nI n) ∧ (¬ ann n = 0 →
        (tm ((ann n).toNatClampNeg * 16 + (num n).toNatClampNeg) = -1 → t = -4 ∧ e = nI n) ∧
        (¬ tm ((ann n).toNatClampNeg * 16 + (num n).toNatClampNeg) = -1 →
          (¬ oc_sub tm (rt (rcv n).toNatClampNeg).toNatClampNeg (ann n).toNatClampNeg → t = -6 ∧ e = nI n) ∧
          (oc_sub tm (rt (rcv n).toNatClampNeg).toNatClampNeg (ann n).toNatClampNeg →
            (rt (bod n).toNatClampNeg < 0 → t = rt (bod n).toNatClampNeg ∧ e = rn (bod n).toNatClampNeg) ∧ (¬ rt (bod n).toNatClampNeg < 0 →
              (¬ oc_sub tm (rt (bod n).toNatClampNeg).toNatClampNeg (tm ((ann n).toNatClampNeg * 16 + (num n).toNatClampNeg)).toNatClampNeg → t = -7 ∧ e = nI n) ∧
              (oc_sub tm (rt (bod n).toNatClampNeg).toNatClampNeg (tm ((ann n).toNatClampNeg * 16 + (num n).toNatClampNeg)).toNatClampNeg → t = ann n ∧ e = -1)))))))
def oc_Tab (tc : Nat) (tm kd par num ann rcv bod mc ml mb : Nat → Int32) (r : Nat) (rt rn : Nat → Int32) (N : Nat) : Prop :=
  ∀ n, n < N → oc_LT tm kd par num ann rcv bod mc ml mb r rt rn n (rt n) (rn n) ∧ (rt n < 0 ∨ ∃ t, t < tc ∧ rt n = nI t)
theorem oc_OB_cg {tm ml mb rt rn rt' rn' : Nat → Int32} {n A m : Nat} {t e : Int32} (h : ∀ i, i < m → rt' (mb (n * 8 + i)).toNatClampNeg = rt (mb (n * 8 + i)).toNatClampNeg ∧ rn' (mb (n * 8 + i)).toNatClampNeg = rn (mb (n * 8 + i)).toNatClampNeg) :
    ∀ j i, i + j = m → oc_OB tm ml mb rt rn n A t e j i → oc_OB tm ml mb rt' rn' n A t e j i
  | 0, _, _, q => q
  | j + 1, i, hm, q => by
    obtain ⟨e1, e2⟩ := h i (by omega)
    unfold oc_OB at q ⊢
    rw [e1, e2]
    exact ⟨q.1, fun z => ⟨fun w => oc_OB_cg h j (i + 1) (by omega) ((q.2 z).1 w), (q.2 z).2⟩⟩
theorem oc_LT_cg {nc tc : Nat} {tm kd par num ann rcv bod mc ml mb : Nat → Int32} {r : Nat} {rt rn rt' rn' : Nat → Int32} {n : Nat} {t e : Int32} (hc : nc ≤ 32) (hn : n < nc) (N : oc_Nc nc tc kd par num ann rcv bod mc ml mb n)
    (h : ∀ m, m < n → rt' m = rt m ∧ rn' m = rn m) (q : oc_LT tm kd par num ann rcv bod mc ml mb r rt rn n t e) : oc_LT tm kd par num ann rcv bod mc ml mb r rt' rn' n t e := by
  obtain ⟨-, ⟨k1, k2⟩ | ⟨k1, k2, k3, m, w4, w5, w6, w7⟩ | ⟨w1, w2, w3, a, w4, w5, w6⟩ | ⟨w1, w2, w3, a, b, w4, w5, w6, w7, w8, w9, w10⟩⟩ := N
  · refine ⟨q.1, fun z => ?_, fun z => ?_, fun z => ?_⟩ <;> (rw [k1] at z; exact absurd z (by decide))
  · refine ⟨fun z => ?_, fun z => ?_, fun z => ?_, fun z => ?_⟩
    · rw [k1] at z; exact absurd z (by decide)
    · have g := q.2.1 z
      refine ⟨g.1, fun y => ⟨(g.2 y).1, fun x => ?_⟩⟩
      have ec : (mc n).toNatClampNeg = m := by rw [w5, nI_clamp (by omega)]
      refine oc_OB_cg (m := m) (fun i hi => ?_) _ 0 (by rw [ec]; omega) ((g.2 y).2 x)
      obtain ⟨l, b, x1, x2, x3, x4, x5⟩ := w6 i hi
      rw [x4, nI_clamp (by omega)]
      exact h b x3
    · rw [k1] at z; exact absurd z (by decide)
    · rw [k1] at z; exact absurd z (by decide)
  · refine ⟨fun z => ?_, fun z => ?_, fun z => ?_, fun z => ?_⟩
    · rw [w1] at z; exact absurd z (by decide)
    · rw [w1] at z; exact absurd z (by decide)
    · have g := q.2.2.1 z
      rw [w5, nI_clamp (by omega)] at g ⊢
      rw [(h a w4).1, (h a w4).2]
      exact g
    · rw [w1] at z; exact absurd z (by decide)
  · refine ⟨fun z => ?_, fun z => ?_, fun z => ?_, fun z => ?_⟩
    · rw [w1] at z; exact absurd z (by decide)
    · rw [w1] at z; exact absurd z (by decide)
    · rw [w1] at z; exact absurd z (by decide)
    · have g := q.2.2.2 z
      rw [w7, w8, nI_clamp (n := a) (by omega), nI_clamp (n := b) (by omega)] at g ⊢
      rw [(h a w4).1, (h a w4).2, (h b w5).1, (h b w5).2]
      exact g
theorem oc_Tab_up {nc tc : Nat} {tm kd par num ann rcv bod mc ml mb : Nat → Int32} {r : Nat} {rt rn : Nat → Int32} {n : Nat} {t e : Int32} (hc : nc ≤ 32) (hn : n < nc) (N : oc_Nd nc tc kd par num ann rcv bod mc ml mb)
    (T : oc_Tab tc tm kd par num ann rcv bod mc ml mb r rt rn n) (q : oc_LT tm kd par num ann rcv bod mc ml mb r rt rn n t e) (ht : t < 0 ∨ ∃ k, k < tc ∧ t = nI k) :
    oc_Tab tc tm kd par num ann rcv bod mc ml mb r (upd rt n t) (upd rn n e) (n + 1) := fun m hm => by
  by_cases z : m = n
  · subst z
    rw [pk_us, pk_us]
    exact ⟨oc_LT_cg hc hn (N m hn) (fun j hj => ⟨pk_un (by omega), pk_un (by omega)⟩) q, ht⟩
  · rw [pk_un z, pk_un z]
    obtain ⟨a, b⟩ := T m (by omega)
    exact ⟨oc_LT_cg hc (by omega) (N m (by omega)) (fun j hj => ⟨pk_un (by omega), pk_un (by omega)⟩) a, b⟩
end
section
/-! the verdict at a node, and the walk over the term -/
def oc_V0 (par kd num ann bod : Nat → Int32) (r n : Nat) (v : Int32) : Prop :=
  (∃ p : Nat, oc_bo par kd bod r n (num n).toNatClampNeg = (p : Int) ∧ v = ann p) ∨ ((∀ p : Nat, ¬ oc_bo par kd bod r n (num n).toNatClampNeg = (p : Int)) ∧ v = -2)
def oc_Ok (tc : Nat) (tm ann ml : Nat → Int32) (n i : Nat) (ct : Int32) : Prop :=
  i = 0 ∨ ∃ i' k, i = i' + 1 ∧ k < tc ∧ ct = nI k ∧ oc_sub tm k (tm ((ann n).toNatClampNeg * 16 + (ml (n * 8 + i')).toNatClampNeg)).toNatClampNeg
def oc_V1 (tc : Nat) (tm ann mc ml : Nat → Int32) (n : Nat) (ct d v : Int32) : Prop :=
  (ann n = 0 ∧ v = -3) ∨ (¬ ann n = 0 ∧ ((¬ oc_LM tm mc ml n (ann n).toNatClampNeg ∧ v = -5) ∨ (oc_LM tm mc ml n (ann n).toNatClampNeg ∧
    ((∃ i k, d = nI (i + 1) ∧ i < (mc n).toNatClampNeg ∧ k < tc ∧ ct = nI k ∧ ¬ oc_sub tm k (tm ((ann n).toNatClampNeg * 16 + (ml (n * 8 + i)).toNatClampNeg)).toNatClampNeg ∧ v = -7) ∨
     (∃ i, d = nI i ∧ i ≤ (mc n).toNatClampNeg ∧ oc_Ok tc tm ann ml n i ct ∧ ((i < (mc n).toNatClampNeg ∧ v = -100) ∨ (i = (mc n).toNatClampNeg ∧ v = ann n)))))))
def oc_V2 (tc : Nat) (tm num : Nat → Int32) (n : Nat) (ct d v : Int32) : Prop :=
  (d = 0 ∧ v = -100) ∨ (¬ d = 0 ∧ ((ct = 0 ∧ v = -3) ∨ ∃ k, k < tc ∧ ¬ k = 0 ∧ ct = nI k ∧
    ((tm (k * 16 + (num n).toNatClampNeg) = -1 ∧ v = -4) ∨ (¬ tm (k * 16 + (num n).toNatClampNeg) = -1 ∧ v = tm (k * 16 + (num n).toNatClampNeg)))))
def oc_V3 (tc : Nat) (tm num ann : Nat → Int32) (n : Nat) (ct d v : Int32) : Prop :=
  (d = 0 ∧ v = -100) ∨ (¬ d = 0 ∧ ((ann n = 0 ∧ v = -3) ∨ (¬ ann n = 0 ∧
    ((tm ((ann n).toNatClampNeg * 16 + (num n).toNatClampNeg) = -1 ∧ v = -4) ∨ (¬ tm ((ann n).toNatClampNeg * 16 + (num n).toNatClampNeg) = -1 ∧ ∃ k, k < tc ∧ ct = nI k ∧
      ((d = 1 ∧ oc_sub tm k (ann n).toNatClampNeg ∧ v = -100) ∨ (d = 1 ∧ ¬ oc_sub tm k (ann n).toNatClampNeg ∧ v = -6) ∨
       (¬ d = 1 ∧ oc_sub tm k (tm ((ann n).toNatClampNeg * 16 + (num n).toNatClampNeg)).toNatClampNeg ∧ v = ann n) ∨
       (¬ d = 1 ∧ ¬ oc_sub tm k (tm ((ann n).toNatClampNeg * 16 + (num n).toNatClampNeg)).toNatClampNeg ∧ v = -7)))))))
def oc_Vd (tc : Nat) (tm kd par num ann bod mc ml : Nat → Int32) (r n : Nat) (ct : Int32) (cd : Nat → Int32) (v : Int32) : Prop :=
  (kd n = 0 ∧ oc_V0 par kd num ann bod r n v) ∨ (kd n = 1 ∧ oc_V1 tc tm ann mc ml n ct (cd n) v) ∨ (kd n = 2 ∧ oc_V2 tc tm num n ct (cd n) v) ∨ (kd n = 3 ∧ oc_V3 tc tm num ann n ct (cd n) v)
theorem oc_ann {nc tc : Nat} {kd par num ann rcv bod mc ml mb : Nat → Int32} (N : oc_Nd nc tc kd par num ann rcv bod mc ml mb) {p m : Nat} (hp : p < nc) (hm : m < 2 ^ 31) (h : kd p = 1 ∨ bod p = nI m) : ∃ A, A < tc ∧ ann p = nI A := by
  obtain ⟨-, ⟨k1, k2, -⟩ | ⟨-, -, k3, -⟩ | ⟨k1, k2, -⟩ | ⟨-, -, k3, -⟩⟩ := N p hp
  · rcases h with h | h
    · rw [k1] at h; exact absurd h (by decide)
    · rw [k2] at h; exact absurd h (oc_m1' hm)
  · exact k3
  · rcases h with h | h
    · rw [k1] at h; exact absurd h (by decide)
    · rw [k2] at h; exact absurd h (oc_m1' hm)
  · exact k3
theorem oc_sm_mono (f : Nat → Nat) {i : Nat} : ∀ m, i ≤ m → oc_sm f i ≤ oc_sm f m
  | 0, h => by rw [show i = 0 by omega]; exact Nat.le_refl _
  | m + 1, h => by
    by_cases e : i = m + 1
    · rw [e]; exact Nat.le_refl _
    · have := oc_sm_mono f m (show i ≤ m by omega)
      rw [oc_sm]; omega
theorem oc_dfs {nc tc : Nat} {tm mk kd par num ann rcv bod mc ml mb : Nat → Int32} {r : Nat} {rt rn : Nat → Int32} (hc : nc ≤ 32) (htc : tc ≤ 32) (hr : r < nc)
    (N : oc_Nd nc tc kd par num ann rcv bod mc ml mb) (Y : oc_Ty tc tm mk) (T : oc_Tab tc tm kd par num ann rcv bod mc ml mb r rt rn (r + 1))
    (W : Nat → Nat → Nat → Int32 → (Nat → Int32) → Prop) (E : Int32 → Int32 → (Nat → Int32) → Prop) (R : Int32 → (Nat → Int32) → Prop)
    (hp : ∀ f s n c ct cd, s < 64 → n < nc → c < nc → oc_Vd tc tm kd par num ann bod mc ml r n ct cd (-100) → (kd n = 1 → ∃ i, i < 8 ∧ cd n = nI i ∧ mb (n * 8 + i) = nI c) → (¬ kd n = 1 → (cd n = 0 → rcv n = nI c) ∧ (¬ cd n = 0 → bod n = nI c)) → W f (s + 1) c ct (upd cd c 0) → W (f + 1) s n ct cd)
    (he : ∀ f s n ct cd v, s < 64 → n < nc → oc_Vd tc tm kd par num ann bod mc ml r n ct cd v → v < 0 → ¬ v = -100 → E v (nI n) cd → W (f + 1) s n ct cd)
    (hR : ∀ f s ct cd v, s < 64 → oc_Vd tc tm kd par num ann bod mc ml r r ct cd v → ¬ v < 0 → R v cd → W (f + 1) s r ct cd)
    (hu : ∀ f s n p ct cd v, s < 64 → n < nc → p < nc → n ≠ r → par n = nI p → oc_Vd tc tm kd par num ann bod mc ml r n ct cd v → ¬ v < 0 → W f (s + 1) p v (upd cd p (cd p + 1)) → W (f + 1) s n ct cd) :
    ∀ n, n ≤ r → ∀ f s ct cd, cd n = 0 → 64 - s < f → s + 2 * oc_sz par nc n ≤ 65 → (n = r ∨ ∃ p, p < nc ∧ par n = nI p) →
      (rt n < 0 → ∀ cd', E (rt n) (rn n) cd') → (¬ rt n < 0 → n = r → ∀ cd', R (rt n) cd') →
      (¬ rt n < 0 → n ≠ r → ∀ p f' s' cd', p < nc → par n = nI p → 64 - s' < f' → s' + 1 ≤ s + 2 * oc_sz par nc n → (∀ j, n < j → cd' j = cd j) → W f' s' p (rt n) (upd cd' p (cd' p + 1))) →
      W f s n ct cd := by
  intro n
  induction n using Nat.strongRecOn with
  | ind n IH =>
  intro hnr f0 s0 ct0 cd0 hcd hf0 hs0 hpn hE hRR hU
  have hn : n < nc := by omega
  have hPa := oc_Nd_Pa N
  have hsz1 : 1 ≤ oc_sz par nc n := by
    have := oc_sz_c hPa hc hn (fun _ => 0) 0 (fun i hi => absurd hi (Nat.not_lt_zero _)) (fun i j hi => absurd hi (Nat.not_lt_zero _))
    omega
  -- how the walk ends at n with the type of n
  have fin : ∀ f s ct cd, 64 - s < f → s + 2 ≤ s0 + 2 * oc_sz par nc n → (∀ j, n < j → cd j = cd0 j) → oc_Vd tc tm kd par num ann bod mc ml r n ct cd (rt n) → ¬ rt n < 0 → W f s n ct cd := by
    intro f s ct cd hf hs hj hV hneg
    obtain ⟨f', rfl⟩ : ∃ f', f = f' + 1 := ⟨f - 1, by omega⟩
    by_cases e : n = r
    · subst e
      exact hR f' s ct cd _ (by omega) hV hneg (hRR hneg rfl cd)
    · rcases hpn with h | ⟨p, h1, h2⟩
      · exact absurd h e
      · exact hu f' s n p ct cd _ (by omega) hn h1 e h2 hV hneg (hU hneg e p f' (s + 1) cd h1 h2 (by omega) (by omega) hj)
  have err : ∀ f s ct cd v, 64 - s < f → s + 2 ≤ s0 + 2 * oc_sz par nc n → oc_Vd tc tm kd par num ann bod mc ml r n ct cd v → v < 0 → ¬ v = -100 → rt n = v ∧ rn n = nI n → W f s n ct cd := by
    intro f s ct cd v hf hs hV hv h100 hE2
    obtain ⟨f', rfl⟩ : ∃ f', f = f' + 1 := ⟨f - 1, by omega⟩
    have h := hE (by rw [hE2.1]; exact hv) cd
    rw [hE2.1, hE2.2] at h
    exact he f' s n ct cd v (by omega) hn hV hv h100 h
  have hT := T n (by omega)
  obtain ⟨-, ⟨k1, k2, k3⟩ | ⟨k1, k2, ⟨A, hA, eA⟩, m, w4, w5, w6, w7⟩ | ⟨k1, w2, ⟨l, hl, el⟩, a, w4, w5, w6⟩ | ⟨k1, ⟨l, hl, el⟩, ⟨A, hA, eA⟩, a, b, w4, w5, w6, w7, w8, w9, w10⟩⟩ := N n hn
  · -- a variable
    have g := hT.1.1 k1
    rcases oc_bo_3 (kd := kd) (bod := bod) (r := r) hPa hc n hn (num n).toNatClampNeg with h | h | ⟨p, m, h1, h2, h3, h4⟩
    · have q : ∀ p : Nat, ¬ oc_bo par kd bod r n (num n).toNatClampNeg = (p : Int) := fun p hp' => by rw [h] at hp'; omega
      exact err f0 s0 ct0 cd0 (-2) hf0 (by omega) (Or.inl ⟨k1, Or.inr ⟨q, rfl⟩⟩) (by decide) (by decide) (g.2 q)
    · have q : ∀ p : Nat, ¬ oc_bo par kd bod r n (num n).toNatClampNeg = (p : Int) := fun p hp' => by rw [h] at hp'; omega
      exact err f0 s0 ct0 cd0 (-2) hf0 (by omega) (Or.inl ⟨k1, Or.inr ⟨q, rfl⟩⟩) (by decide) (by decide) (g.2 q)
    · obtain ⟨A, hA, eA⟩ := oc_ann N h1 (by omega) h4
      have e := (g.1 p h3).1
      refine fin f0 s0 ct0 cd0 hf0 (by omega) (fun _ _ => rfl) (Or.inl ⟨k1, Or.inl ⟨p, h3, e⟩⟩) ?_
      rw [e, eA]
      exact nI_pos (by omega)
  · -- an object literal
    have g := hT.1.2.1 k1
    have cm : (mc n).toNatClampNeg = m := by rw [w5, nI_clamp (by omega)]
    by_cases hA0 : ann n = 0
    · exact err f0 s0 ct0 cd0 (-3) hf0 (by omega) (Or.inr (Or.inl ⟨k1, Or.inl ⟨hA0, rfl⟩⟩)) (by decide) (by decide) (g.1 hA0)
    rcases Classical.em (oc_LM tm mc ml n (ann n).toNatClampNeg) with hM | hM
    · have gO := (g.2 hA0).2 hM
      rw [cm] at gO
      have hch : ∀ i, i < m → (mb (n * 8 + i)).toNatClampNeg < n ∧ par (mb (n * 8 + i)).toNatClampNeg = nI n := fun i hi => by
        obtain ⟨l, b, x1, x2, x3, x4, x5⟩ := w6 i hi
        rw [x4, nI_clamp (by omega)]
        exact ⟨x3, x5⟩
      have hdis : ∀ i j, i < m → j < m → (mb (n * 8 + i)).toNatClampNeg = (mb (n * 8 + j)).toNatClampNeg → i = j := fun i j hi hj hq => by
        obtain ⟨l, b, x1, x2, x3, x4, x5⟩ := w6 i hi
        obtain ⟨l', b', y1, y2, y3, y4, y5⟩ := w6 j hj
        refine w7 i j hi hj ?_
        rw [x4, y4, nI_clamp (by omega), nI_clamp (by omega)] at hq
        rw [x4, y4, hq]
      have hsz := oc_sz_c hPa hc hn (fun i => (mb (n * 8 + i)).toNatClampNeg) m hch hdis
      have inner : ∀ j i f s ct cd, i + j = m → cd n = nI i → (∀ q, n < q → cd q = cd0 q) → 64 - s < f →
          s + 2 + 2 * oc_sm (fun i => oc_sz par nc (mb (n * 8 + i)).toNatClampNeg) m ≤ s0 + 2 * oc_sz par nc n + 2 * oc_sm (fun i => oc_sz par nc (mb (n * 8 + i)).toNatClampNeg) i →
          ((i = 0 ∧ oc_OB tm ml mb rt rn n (ann n).toNatClampNeg (rt n) (rn n) j 0) ∨ (∃ i' k, i = i' + 1 ∧ k < tc ∧ ct = nI k ∧
            (oc_sub tm k (tm ((ann n).toNatClampNeg * 16 + (ml (n * 8 + i')).toNatClampNeg)).toNatClampNeg → oc_OB tm ml mb rt rn n (ann n).toNatClampNeg (rt n) (rn n) j i) ∧
            (¬ oc_sub tm k (tm ((ann n).toNatClampNeg * 16 + (ml (n * 8 + i')).toNatClampNeg)).toNatClampNeg → rt n = -7 ∧ rn n = nI n))) →
          W f s n ct cd := by
        intro j
        induction j with
        | zero =>
          intro i f s ct cd hij hcd' hq hf hs hG
          have him : i = m := by omega
          have hs2 : s + 2 ≤ s0 + 2 * oc_sz par nc n := by rw [him] at hs; omega
          have ok : oc_Ok tc tm ann ml n i ct → oc_OB tm ml mb rt rn n (ann n).toNatClampNeg (rt n) (rn n) 0 i → W f s n ct cd := fun h1 h2 => by
            have e : rt n = ann n := by
              have := h2.1
              rw [eA, nI_clamp (by omega)] at this
              rw [this, eA]
            refine fin f s ct cd hf hs2 hq (Or.inr (Or.inl ⟨k1, Or.inr ⟨hA0, Or.inr ⟨hM, Or.inr ⟨i, hcd', by omega, h1, Or.inr ⟨by omega, e⟩⟩⟩⟩⟩)) ?_
            rw [e, eA]
            exact nI_pos (by omega)
          rcases hG with ⟨h0, h1⟩ | ⟨i', k, h1, h2, h3, h4, h5⟩
          · exact ok (Or.inl h0) (by rw [h0]; exact h1)
          · rcases Classical.em (oc_sub tm k (tm ((ann n).toNatClampNeg * 16 + (ml (n * 8 + i')).toNatClampNeg)).toNatClampNeg) with hsb | hsb
            · exact ok (Or.inr ⟨i', k, h1, h2, h3, hsb⟩) (h4 hsb)
            · exact err f s ct cd (-7) hf hs2 (Or.inr (Or.inl ⟨k1, Or.inr ⟨hA0, Or.inr ⟨hM, Or.inl ⟨i', k, by rw [hcd', h1], by omega, h2, h3, hsb, rfl⟩⟩⟩⟩)) (by decide) (by decide) (h5 hsb)
        | succ j ih =>
          intro i f s ct cd hij hcd' hq hf hs hG
          have him : i < m := by omega
          have hmono := oc_sm_mono (fun i => oc_sz par nc (mb (n * 8 + i)).toNatClampNeg) m (show i + 1 ≤ m by omega)
          rw [oc_sm] at hmono
          have hs2 : s + 2 ≤ s0 + 2 * oc_sz par nc n := by omega
          have ok : oc_Ok tc tm ann ml n i ct → oc_OB tm ml mb rt rn n (ann n).toNatClampNeg (rt n) (rn n) (j + 1) i → W f s n ct cd := fun h1 h2 => by
            obtain ⟨f', rfl⟩ : ∃ f', f = f' + 1 := ⟨f - 1, by omega⟩
            obtain ⟨l, b, x1, x2, x3, x4, x5⟩ := w6 i him
            have cb : (mb (n * 8 + i)).toNatClampNeg = b := by rw [x4, nI_clamp (by omega)]
            unfold oc_OB at h2
            rw [cb] at h2 hmono
            refine hp f' s n b ct cd (by omega) hn (by omega) (Or.inr (Or.inl ⟨k1, Or.inr ⟨hA0, Or.inr ⟨hM, Or.inr ⟨i, hcd', by omega, h1, Or.inl ⟨by omega, rfl⟩⟩⟩⟩⟩)) (fun _ => ⟨i, by omega, hcd', x4⟩) (fun z => absurd k1 z) ?_
            refine IH b x3 (by omega) f' (s + 1) ct _ pk_us (by omega) (by omega) (Or.inr ⟨n, hn, x5⟩) (fun z cd' => ?_) (fun _ z => by omega) (fun z _ p f'' s' cd' hp1 hpp hf'' hs' hcj => ?_)
            · have y := h2.1 z
              have y2 := hE (by rw [y.1]; exact z) cd'
              rw [y.1, y.2] at y2
              exact y2
            · rw [x5, nI_eq (by omega) (by omega)] at hpp
              subst hpp
              rcases (T b (by omega)).2 with y | ⟨k, y1, y2⟩
              · exact absurd y z
              have e1 : cd' n + 1 = nI (i + 1) := by
                rw [hcj n x3, pk_un (by omega), hcd', nI_1]
              refine ih (i + 1) f'' s' (rt b) _ (by omega) (by rw [pk_us, e1]) (fun q hq' => ?_) hf'' ?_ (Or.inr ⟨i, k, rfl, y1, y2, ?_, ?_⟩)
              · rw [pk_un (by omega), hcj q (by omega), pk_un (by omega), hq q hq']
              · rw [oc_sm, cb]; omega
              · intro hsb
                refine (h2.2 z).1 ?_
                rw [y2, nI_clamp (by omega)]
                exact hsb
              · intro hsb
                refine (h2.2 z).2 ?_
                rw [y2, nI_clamp (by omega)]
                exact hsb
          rcases hG with ⟨h0, h1⟩ | ⟨i', k, h1, h2, h3, h4, h5⟩
          · exact ok (Or.inl h0) (by rw [h0]; exact h1)
          · rcases Classical.em (oc_sub tm k (tm ((ann n).toNatClampNeg * 16 + (ml (n * 8 + i')).toNatClampNeg)).toNatClampNeg) with hsb | hsb
            · exact ok (Or.inr ⟨i', k, h1, h2, h3, hsb⟩) (h4 hsb)
            · exact err f s ct cd (-7) hf hs2 (Or.inr (Or.inl ⟨k1, Or.inr ⟨hA0, Or.inr ⟨hM, Or.inl ⟨i', k, by rw [hcd', h1], by omega, h2, h3, hsb, rfl⟩⟩⟩⟩)) (by decide) (by decide) (h5 hsb)
      exact inner m 0 f0 s0 ct0 cd0 (by omega) (by rw [hcd, nI_0]) (fun _ _ => rfl) hf0 (by rw [show oc_sm (fun i => oc_sz par nc (mb (n * 8 + i)).toNatClampNeg) 0 = 0 from rfl]; omega) (Or.inl ⟨rfl, gO⟩)
    · exact err f0 s0 ct0 cd0 (-5) hf0 (by omega) (Or.inr (Or.inl ⟨k1, Or.inr ⟨hA0, Or.inl ⟨hM, rfl⟩⟩⟩)) (by decide) (by decide) ((g.2 hA0).1 hM)
  · -- an invocation
    have g := hT.1.2.2.1 k1
    rw [w5, nI_clamp (by omega), el, nI_clamp (by omega)] at g
    have hsz := oc_sz_c hPa hc hn (fun _ => a) 1 (fun _ _ => ⟨w4, w6⟩) (fun i j hi hj _ => by omega)
    rw [oc_sm, oc_sm] at hsz
    obtain ⟨f', rfl⟩ : ∃ f', f0 = f' + 1 := ⟨f0 - 1, by omega⟩
    refine hp f' s0 n a ct0 cd0 (by omega) hn (by omega) (Or.inr (Or.inr (Or.inl ⟨k1, Or.inl ⟨hcd, rfl⟩⟩))) (fun z => by rw [k1] at z; exact absurd z (by decide)) (fun _ => ⟨fun _ => w5, fun z => absurd hcd z⟩) ?_
    refine IH a w4 (by omega) f' (s0 + 1) ct0 _ pk_us (by omega) (by omega) (Or.inr ⟨n, hn, w6⟩) (fun z cd' => ?_) (fun _ z => by omega) (fun z _ p f'' s' cd' hp1 hpp hf'' hs' hcj => ?_)
    · have y := g.1 z
      have y2 := hE (by rw [y.1]; exact z) cd'
      rw [y.1, y.2] at y2
      exact y2
    · rw [w6, nI_eq (by omega) (by omega)] at hpp
      subst hpp
      have e1 : upd cd' n (cd' n + 1) n = 1 := by
        rw [pk_us, hcj n w4, pk_un (by omega), hcd]; decide
      have e2 : ¬ upd cd' n (cd' n + 1) n = 0 := by rw [e1]; decide
      have e3 : ∀ j, n < j → upd cd' n (cd' n + 1) j = cd0 j := fun j hj => by rw [pk_un (by omega), hcj j (by omega), pk_un (by omega)]
      have g2 := g.2 z
      rcases (T a (by omega)).2 with y | ⟨k, y1, y2⟩
      · exact absurd y z
      by_cases z0 : rt a = 0
      · exact err f'' s' (rt a) _ (-3) hf'' (by omega) (Or.inr (Or.inr (Or.inl ⟨k1, Or.inr ⟨e2, Or.inl ⟨z0, rfl⟩⟩⟩))) (by decide) (by decide) (g2.1 z0)
      have g3 := g2.2 z0
      have hk0 : ¬ k = 0 := fun q => z0 (by rw [y2, q, nI_0])
      rw [y2, nI_clamp (by omega)] at g3
      by_cases zm : tm (k * 16 + l) = -1
      · exact err f'' s' (rt a) _ (-4) hf'' (by omega) (Or.inr (Or.inr (Or.inl ⟨k1, Or.inr ⟨e2, Or.inr ⟨k, y1, hk0, y2, Or.inl ⟨by rw [el, nI_clamp (by omega)]; exact zm, rfl⟩⟩⟩⟩))) (by decide) (by decide) (g3.1 zm)
      · have g4 := g3.2 zm
        rcases (Y.2 k y1).2 l hl with w | ⟨m', w1, w2'⟩
        · exact absurd w zm
        refine fin f'' s' (rt a) _ hf'' (by omega) e3 (Or.inr (Or.inr (Or.inl ⟨k1, Or.inr ⟨e2, Or.inr ⟨k, y1, hk0, y2, Or.inr ⟨by rw [el, nI_clamp (by omega)]; exact zm, by rw [el, nI_clamp (by omega)]; exact g4.1⟩⟩⟩⟩))) ?_
        rw [g4.1, w2']
        exact nI_pos (by omega)
  · -- an update
    have g := hT.1.2.2.2 k1
    rw [w7, w8, nI_clamp (n := a) (by omega), nI_clamp (n := b) (by omega)] at g
    have hsz := oc_sz_c hPa hc hn (fun i => if i = 0 then a else b) 2 (fun i _ => by
      by_cases q : i = 0
      · rw [if_pos q]; exact ⟨w4, w9⟩
      · rw [if_neg q]; exact ⟨w5, w10⟩) (fun i j hi hj q => by
      by_cases q1 : i = 0
      · by_cases q2 : j = 0
        · omega
        · rw [if_pos q1, if_neg q2] at q; exact absurd q w6
      · by_cases q2 : j = 0
        · rw [if_neg q1, if_pos q2] at q; exact absurd q.symm w6
        · omega)
    rw [oc_sm, oc_sm, oc_sm, if_pos rfl, if_neg (by decide)] at hsz
    obtain ⟨f', rfl⟩ : ∃ f', f0 = f' + 1 := ⟨f0 - 1, by omega⟩
    have nk1 : ¬ kd n = 1 := fun z => by rw [k1] at z; exact absurd z (by decide)
    refine hp f' s0 n a ct0 cd0 (by omega) hn (by omega) (Or.inr (Or.inr (Or.inr ⟨k1, Or.inl ⟨hcd, rfl⟩⟩))) (fun z => absurd z nk1) (fun _ => ⟨fun _ => w7, fun z => absurd hcd z⟩) ?_
    refine IH a w4 (by omega) f' (s0 + 1) ct0 _ pk_us (by omega) (by omega) (Or.inr ⟨n, hn, w9⟩) (fun z cd' => ?_) (fun _ z => by omega) (fun z _ p f'' s' cd' hp1 hpp hf'' hs' hcj => ?_)
    · have y := g.1 z
      have y2 := hE (by rw [y.1]; exact z) cd'
      rw [y.1, y.2] at y2
      exact y2
    rw [w9, nI_eq (by omega) (by omega)] at hpp
    subst hpp
    have e1 : upd cd' n (cd' n + 1) n = 1 := by
      rw [pk_us, hcj n w4, pk_un (by omega), hcd]; decide
    have e2 : ¬ upd cd' n (cd' n + 1) n = 0 := by rw [e1]; decide
    have e3 : ∀ j, n < j → upd cd' n (cd' n + 1) j = cd0 j := fun j hj => by rw [pk_un (by omega), hcj j (by omega), pk_un (by omega)]
    have g2 := g.2 z
    rcases (T a (by omega)).2 with y | ⟨k, y1, y2⟩
    · exact absurd y z
    by_cases z0 : ann n = 0
    · exact err f'' s' (rt a) _ (-3) hf'' (by omega) (Or.inr (Or.inr (Or.inr ⟨k1, Or.inr ⟨e2, Or.inl ⟨z0, rfl⟩⟩⟩))) (by decide) (by decide) (g2.1 z0)
    have g3 := g2.2 z0
    by_cases zm : tm ((ann n).toNatClampNeg * 16 + (num n).toNatClampNeg) = -1
    · exact err f'' s' (rt a) _ (-4) hf'' (by omega) (Or.inr (Or.inr (Or.inr ⟨k1, Or.inr ⟨e2, Or.inr ⟨z0, Or.inl ⟨zm, rfl⟩⟩⟩⟩))) (by decide) (by decide) (g3.1 zm)
    have g4 := g3.2 zm
    rw [y2, nI_clamp (by omega)] at g4
    rcases Classical.em (oc_sub tm k (ann n).toNatClampNeg) with hsb | hsb
    · have g5 := g4.2 hsb
      obtain ⟨f3, rfl⟩ : ∃ f3, f'' = f3 + 1 := ⟨f'' - 1, by omega⟩
      refine hp f3 s' n b (rt a) _ (by omega) hn (by omega) (Or.inr (Or.inr (Or.inr ⟨k1, Or.inr ⟨e2, Or.inr ⟨z0, Or.inr ⟨zm, k, y1, y2, Or.inl ⟨e1, hsb, rfl⟩⟩⟩⟩⟩))) (fun q => absurd q nk1) (fun _ => ⟨fun q => absurd q e2, fun _ => w8⟩) ?_
      refine IH b w5 (by omega) f3 (s' + 1) (rt a) _ pk_us (by omega) (by omega) (Or.inr ⟨n, hn, w10⟩) (fun q cd2 => ?_) (fun _ q => by omega) (fun q _ p f4 s4 cd2 hp4 hpp4 hf4 hs4 hcj4 => ?_)
      · have y := g5.1 q
        have y3 := hE (by rw [y.1]; exact q) cd2
        rw [y.1, y.2] at y3
        exact y3
      · rw [w10, nI_eq (by omega) (by omega)] at hpp4
        subst hpp4
        have d1 : upd cd2 n (cd2 n + 1) n = 2 := by
          rw [pk_us, hcj4 n w5, pk_un (by omega), e1]; decide
        have d2 : ¬ upd cd2 n (cd2 n + 1) n = 0 := by rw [d1]; decide
        have d4 : ¬ upd cd2 n (cd2 n + 1) n = 1 := by rw [d1]; decide
        have d3 : ∀ j, n < j → upd cd2 n (cd2 n + 1) j = cd0 j := fun j hj => by rw [pk_un (by omega), hcj4 j (by omega), pk_un (by omega), e3 j hj]
        have g6 := g5.2 q
        rcases (T b (by omega)).2 with y | ⟨k', x1, x2⟩
        · exact absurd y q
        rw [x2, nI_clamp (by omega)] at g6
        rcases Classical.em (oc_sub tm k' (tm ((ann n).toNatClampNeg * 16 + (num n).toNatClampNeg)).toNatClampNeg) with hsb2 | hsb2
        · have g7 := g6.2 hsb2
          refine fin f4 s4 (rt b) _ hf4 (by omega) d3 (Or.inr (Or.inr (Or.inr ⟨k1, Or.inr ⟨d2, Or.inr ⟨z0, Or.inr ⟨zm, k', x1, x2, Or.inr (Or.inr (Or.inl ⟨d4, hsb2, g7.1⟩))⟩⟩⟩⟩))) ?_
          rw [g7.1, eA]
          exact nI_pos (by omega)
        · exact err f4 s4 (rt b) _ (-7) hf4 (by omega) (Or.inr (Or.inr (Or.inr ⟨k1, Or.inr ⟨d2, Or.inr ⟨z0, Or.inr ⟨zm, k', x1, x2, Or.inr (Or.inr (Or.inr ⟨d4, hsb2, rfl⟩))⟩⟩⟩⟩))) (by decide) (by decide) (g6.1 hsb2)
    · exact err f'' s' (rt a) _ (-6) hf'' (by omega) (Or.inr (Or.inr (Or.inr ⟨k1, Or.inr ⟨e2, Or.inr ⟨z0, Or.inr ⟨zm, k, y1, y2, Or.inr (Or.inl ⟨e1, hsb, rfl⟩)⟩⟩⟩⟩))) (by decide) (by decide) (g4.1 hsb)
end
section
/-! the machine: environments, objects, frames -/
def oc_En (co cr : Nat → Int32) (us ob : Nat) : Nat → Int32 → Prop
  | 0, _ => True
  | d + 1, e => ∃ c o, c < us ∧ e = nI c ∧ o < ob ∧ co c = nI o ∧ oc_En co cr us ob d (cr c)
theorem oc_En_mo {co cr co' cr' : Nat → Int32} {us ob us' ob' : Nat} (h1 : us ≤ us') (h2 : ob ≤ ob') (h3 : ∀ c, c < us → co' c = co c ∧ cr' c = cr c) : ∀ d e, oc_En co cr us ob d e → oc_En co' cr' us' ob' d e
  | 0, _, _ => trivial
  | d + 1, e, ⟨c, o, x1, x2, x3, x4, x5⟩ => ⟨c, o, by omega, x2, by omega, by rw [(h3 c x1).1, x4], by rw [(h3 c x1).2]; exact oc_En_mo h1 h2 h3 d _ x5⟩
def oc_Ob (nc us ob : Nat) (par kd bod co cr cb ce oe : Nat → Int32) (r : Nat) : Prop :=
  ∀ o l, o < ob → l < 16 → cb (o * 16 + l) = -1 ∨ ∃ b d, b < nc ∧ oc_li par r b = true ∧ cb (o * 16 + l) = nI b ∧ oc_dp par kd bod r b = d + 1 ∧ oc_En co cr us ob d (ce (o * 16 + l)) ∧ oe (o * 16 + l) = ce (o * 16 + l)
def oc_Fr (nc us ob fc : Nat) (par kd bod co cr fn fe fp gn ge gd gs : Nat → Int32) (r : Nat) : Prop :=
  ∀ j, j < fc → ∃ n, n < nc ∧ oc_li par r n = true ∧ fn j = nI n ∧ gn j = nI n ∧ oc_En co cr us ob (oc_dp par kd bod r n) (fe j) ∧ ge j = fe j ∧ gd j = nI (j + 1) ∧ gs j = fp j ∧
    ((fp j = 0 ∧ j + 1 = fc) ∨ (fp j = 1 ∧ (kd n = 2 ∨ kd n = 3)) ∨ (fp j = 2 ∧ kd n = 2))
theorem oc_Ob_mo {nc us ob us' ob' : Nat} {par kd bod co cr co' cr' cb ce oe : Nat → Int32} {r : Nat} (h1 : us ≤ us') (h2 : ob ≤ ob') (h3 : ∀ c, c < us → co' c = co c ∧ cr' c = cr c) (h : oc_Ob nc us ob par kd bod co cr cb ce oe r) :
    ∀ o l, o < ob → l < 16 → cb (o * 16 + l) = -1 ∨ ∃ b d, b < nc ∧ oc_li par r b = true ∧ cb (o * 16 + l) = nI b ∧ oc_dp par kd bod r b = d + 1 ∧ oc_En co' cr' us' ob' d (ce (o * 16 + l)) ∧ oe (o * 16 + l) = ce (o * 16 + l) := fun o l ho hl => by
  rcases h o l ho hl with w | ⟨b, d, w1, w2, w3, w4, w5, w6⟩
  · exact Or.inl w
  · exact Or.inr ⟨b, d, w1, w2, w3, w4, oc_En_mo h1 h2 h3 d _ w5, w6⟩
theorem oc_Fr_mo {nc us ob us' ob' fc : Nat} {par kd bod co cr co' cr' fn fe fp gn ge gd gs : Nat → Int32} {r : Nat} (h1 : us ≤ us') (h2 : ob ≤ ob') (h3 : ∀ c, c < us → co' c = co c ∧ cr' c = cr c) (h : oc_Fr nc us ob fc par kd bod co cr fn fe fp gn ge gd gs r) :
    oc_Fr nc us' ob' fc par kd bod co' cr' fn fe fp gn ge gd gs r := fun j hj => by
  obtain ⟨n, w1, w2, w3, w4, w5, w6⟩ := h j hj
  exact ⟨n, w1, w2, w3, w4, oc_En_mo h1 h2 h3 _ _ w5, w6⟩
def oc_MM (nc r F : Nat) (par kd bod : Nat → Int32) (us ob fc : Nat) (val ret : Int32) (cb ce oe co cr fn fe fp gn ge gd gs : Nat → Int32) : Prop :=
  us ≤ F ∧ ob ≤ 32 ∧ fc ≤ 48 ∧ oc_Ob nc us ob par kd bod co cr cb ce oe r ∧ oc_Fr nc us ob fc par kd bod co cr fn fe fp gn ge gd gs r ∧
  ((∃ q, fc = q + 1 ∧ fp q = 0) ∨ ∃ o, o < ob ∧ val = nI o ∧ ret = nI o)
def oc_wt (fn fp : Nat → Int32) (j : Nat) : Nat := if fp j = 0 then 3 * (fn j).toNatClampNeg + 3 else if fp j = 1 then 2 else 1
def oc_Ph (F us fc : Nat) (fn fp : Nat → Int32) : Nat := (F - us) * 96 + oc_sm (oc_wt fn fp) fc
theorem oc_MM_pop {nc r F : Nat} {par kd bod : Nat → Int32} {us ob ob' q o : Nat} {val ret : Int32} {cb ce oe co cr fn fe fp gn ge gd gs cb' ce' oe' : Nat → Int32}
    (h : oc_MM nc r F par kd bod us ob (q + 1) val ret cb ce oe co cr fn fe fp gn ge gd gs) (h1 : ob ≤ ob') (h2 : ob' ≤ 32) (hO : oc_Ob nc us ob' par kd bod co cr cb' ce' oe' r) (ho : o < ob') :
    oc_MM nc r F par kd bod us ob' q (nI o) (nI o) cb' ce' oe' co cr fn fe fp gn ge gd gs := by
  obtain ⟨a1, a2, a3, a4, a5, a6⟩ := h
  refine ⟨a1, h2, by omega, hO, fun j hj => ?_, Or.inr ⟨o, ho, rfl, rfl⟩⟩
  obtain ⟨n, w1, w2, w3, w4, w5, w6, w7, w8, w9⟩ := a5 j (by omega)
  refine ⟨n, w1, w2, w3, w4, oc_En_mo (Nat.le_refl _) h1 (fun _ _ => ⟨rfl, rfl⟩) _ _ w5, w6, w7, w8, ?_⟩
  rcases w9 with ⟨-, y⟩ | y
  · omega
  · exact Or.inr y
theorem oc_MM_push {nc r F : Nat} {par kd bod : Nat → Int32} {us us' ob q n n' : Nat} {val ret e' ph : Int32} {cb ce oe co cr co' cr' fn fe fp gn ge gd gs : Nat → Int32}
    (h : oc_MM nc r F par kd bod us ob (q + 1) val ret cb ce oe co cr fn fe fp gn ge gd gs) (hnc : nc ≤ 32) (hq : q + 1 < 48) (h1 : us ≤ us') (h2 : us' ≤ F) (h3 : ∀ c, c < us → co' c = co c ∧ cr' c = cr c)
    (hn : n < nc) (en : fn q = nI n) (hph : (ph = 1 ∧ (kd n = 2 ∨ kd n = 3)) ∨ (ph = 2 ∧ kd n = 2)) (hn' : n' < nc) (hl : oc_li par r n' = true) (hE : oc_En co' cr' us' ob (oc_dp par kd bod r n') e') :
    oc_MM nc r F par kd bod us' ob (q + 2) val ret cb ce oe co' cr' (upd fn (q + 1) (nI n')) (upd fe (q + 1) e') (upd (upd fp q ph) (q + 1) 0) (upd gn (q + 1) (nI n')) (upd ge (q + 1) e') (upd gd (q + 1) (nI (q + 2))) (upd (upd gs q ph) (q + 1) 0) := by
  obtain ⟨a1, a2, a3, a4, a5, a6⟩ := h
  refine ⟨h2, a2, by omega, oc_Ob_mo h1 (Nat.le_refl _) h3 a4, fun j hj => ?_, Or.inl ⟨q + 1, rfl, pk_us⟩⟩
  by_cases z : j = q + 1
  · subst z
    refine ⟨n', hn', hl, pk_us, pk_us, ?_, ?_, pk_us, ?_, Or.inl ⟨pk_us, rfl⟩⟩
    · rw [pk_us]; exact hE
    · rw [pk_us, pk_us]
    · rw [pk_us, pk_us]
  · obtain ⟨n0, w1, w2, w3, w4, w5, w6, w7, w8, w9⟩ := a5 j (by omega)
    refine ⟨n0, w1, w2, ?_, ?_, ?_, ?_, ?_, ?_, ?_⟩
    · rw [pk_un z]; exact w3
    · rw [pk_un z]; exact w4
    · rw [pk_un z]; exact oc_En_mo h1 (Nat.le_refl _) h3 _ _ w5
    · rw [pk_un z, pk_un z]; exact w6
    · rw [pk_un z]; exact w7
    · rw [pk_un z, pk_un z]
      by_cases y : j = q
      · rw [y, pk_us, pk_us]
      · rw [pk_un y, pk_un y]; exact w8
    · rw [pk_un z]
      by_cases y : j = q
      · subst y
        rw [pk_us]
        have e0 : n0 = n := by
          rw [w3, nI_eq (by omega) (by omega)] at en
          exact en
        rw [e0]
        rcases hph with x | x
        · exact Or.inr (Or.inl x)
        · exact Or.inr (Or.inr x)
      · rw [pk_un y]
        rcases w9 with ⟨-, x⟩ | x
        · omega
        · exact Or.inr x
theorem oc_wt_pos (fn fp : Nat → Int32) (j : Nat) : 1 ≤ oc_wt fn fp j := by
  unfold oc_wt
  split
  · omega
  · split <;> omega
theorem oc_Ph_pop {F us q : Nat} {fn fp : Nat → Int32} : oc_Ph F us q fn fp < oc_Ph F us (q + 1) fn fp := by
  have := oc_wt_pos fn fp q
  unfold oc_Ph
  rw [oc_sm]
  omega
theorem oc_Ph_push {F us us' q n' : Nat} {ph : Int32} {fn fp : Nat → Int32} (hn' : n' < 2 ^ 31) (h : (F - us') * 96 + (if ph = 0 then 3 * (fn q).toNatClampNeg + 3 else if ph = 1 then 2 else 1) + (3 * n' + 3) < (F - us) * 96 + oc_wt fn fp q) :
    oc_Ph F us' (q + 2) (upd fn (q + 1) (nI n')) (upd (upd fp q ph) (q + 1) 0) < oc_Ph F us (q + 1) fn fp := by
  unfold oc_Ph
  rw [oc_sm, oc_sm, oc_sm]
  have e1 : oc_sm (oc_wt (upd fn (q + 1) (nI n')) (upd (upd fp q ph) (q + 1) 0)) q = oc_sm (oc_wt fn fp) q := oc_sm_cg q fun i hi => by
    unfold oc_wt
    rw [pk_un (show i ≠ q + 1 by omega), pk_un (show i ≠ q + 1 by omega), pk_un (show i ≠ q by omega)]
  have e2 : oc_wt (upd fn (q + 1) (nI n')) (upd (upd fp q ph) (q + 1) 0) q = (if ph = 0 then 3 * (fn q).toNatClampNeg + 3 else if ph = 1 then 2 else 1) := by
    unfold oc_wt
    rw [pk_un (show q ≠ q + 1 by omega), pk_un (show q ≠ q + 1 by omega), pk_us]
  have e3 : oc_wt (upd fn (q + 1) (nI n')) (upd (upd fp q ph) (q + 1) 0) (q + 1) = 3 * n' + 3 := by
    unfold oc_wt
    rw [pk_us, pk_us, if_pos rfl, nI_clamp hn']
  rw [e1, e2, e3]
  omega
theorem oc_kid {nc tc : Nat} {kd par num ann rcv bod mc ml mb : Nat → Int32} {r n c : Nat} (hc : nc ≤ 32) (N : oc_Nd nc tc kd par num ann rcv bod mc ml mb) (hn : n < nc) (hl : oc_li par r n = true) (h1 : c < n) (h2 : par c = nI n) :
    oc_li par r c = true ∧ (kd n = 1 ∨ bod n = nI c → oc_dp par kd bod r c = oc_dp par kd bod r n + 1) ∧ (¬ (kd n = 1 ∨ bod n = nI c) → oc_dp par kd bod r c = oc_dp par kd bod r n) := by
  have le := oc_li_le (oc_Nd_Pa N) hc n hn hl
  refine ⟨?_, fun h => oc_dp_1 h2 h1 (by omega) (by omega) h, fun h => oc_dp_2 h2 h1 (by omega) (by omega) h⟩
  rw [oc_li_s h2 h1 (by omega) (by omega)]
  exact hl
/-! what the loops of a new object leave -/
def oc_fi (f : Nat → Int32) (o : Nat) (x : Int32) : Nat → Nat → Int32
  | 0 => f
  | l + 1 => upd (oc_fi f o x l) (o * 16 + l) x
theorem oc_fi_lo {f : Nat → Int32} {o : Nat} {x : Int32} : ∀ l j, j < o * 16 → oc_fi f o x l j = f j
  | 0, _, _ => rfl
  | l + 1, j, h => by rw [oc_fi, pk_un (by omega), oc_fi_lo l j h]
theorem oc_fi_hi {f : Nat → Int32} {o : Nat} {x : Int32} : ∀ l j, j < l → oc_fi f o x l (o * 16 + j) = x
  | 0, _, h1 => absurd h1 (Nat.not_lt_zero _)
  | l + 1, j, h1 => by
    rw [oc_fi]
    by_cases e : j = l
    · rw [e, pk_us]
    · rw [pk_un (by omega)]
      exact oc_fi_hi l j (by omega)
def oc_mt (f ml g : Nat → Int32) (o n : Nat) : Nat → Nat → Int32
  | 0 => f
  | i + 1 => upd (oc_mt f ml g o n i) (o * 16 + (ml (n * 8 + i)).toNatClampNeg) (g (n * 8 + i))
theorem oc_mt_lo {f ml g : Nat → Int32} {o n : Nat} : ∀ i j, j < o * 16 → oc_mt f ml g o n i j = f j
  | 0, _, _ => rfl
  | i + 1, j, h => by rw [oc_mt, pk_un (by omega), oc_mt_lo i j h]
theorem oc_mt_at (ml : Nat → Int32) (o n l : Nat) : ∀ i, (∀ f g : Nat → Int32, oc_mt f ml g o n i (o * 16 + l) = f (o * 16 + l)) ∨ ∃ i', i' < i ∧ ∀ f g : Nat → Int32, oc_mt f ml g o n i (o * 16 + l) = g (n * 8 + i')
  | 0 => Or.inl fun _ _ => rfl
  | i + 1 => by
    by_cases e : l = (ml (n * 8 + i)).toNatClampNeg
    · exact Or.inr ⟨i, by omega, fun f g => by rw [oc_mt, ← e, pk_us]⟩
    · rcases oc_mt_at ml o n l i with h | ⟨i', h1, h2⟩
      · exact Or.inl fun f g => by rw [oc_mt, pk_un (by omega)]; exact h f g
      · exact Or.inr ⟨i', by omega, fun f g => by rw [oc_mt, pk_un (by omega)]; exact h2 f g⟩
theorem oc_Ob_obj {nc tc us ob : Nat} {kd par num ann rcv bod mc ml mb co cr cb ce oe : Nat → Int32} {r n m : Nat} {e : Int32} (hc : nc ≤ 32) (N : oc_Nd nc tc kd par num ann rcv bod mc ml mb) (hn : n < nc) (hl : oc_li par r n = true) (hk : kd n = 1) (hm : mc n = nI m) (hm8 : m ≤ 8)
    (hE : oc_En co cr us ob (oc_dp par kd bod r n) e) (h : oc_Ob nc us ob par kd bod co cr cb ce oe r) :
    oc_Ob nc us (ob + 1) par kd bod co cr (oc_mt (oc_fi cb ob (-1) 16) ml mb ob n m) (oc_mt ce ml (fun _ => e) ob n m) (oc_mt (oc_fi oe ob (-1) 16) ml (fun _ => e) ob n m) r := fun o l ho hl' => by
  by_cases z : o = ob
  · subst z
    rcases oc_mt_at ml o n l m with w | ⟨i, w1, w2⟩
    · left
      rw [w, oc_fi_hi 16 l hl']
    · right
      rw [w2, w2, w2]
      obtain ⟨-, ⟨k1, -⟩ | ⟨k1, k2, k3, m', x4, x5, x6, x7⟩ | ⟨k1, -⟩ | ⟨k1, -⟩⟩ := N n hn
      · rw [hk] at k1; exact absurd k1 (by decide)
      · have em : m' = m := by
          rw [hm] at x5
          exact ((nI_eq (by omega) (by omega)).mp x5).symm
        obtain ⟨l', b, y1, y2, y3, y4, y5⟩ := x6 i (by omega)
        obtain ⟨q1, q2, -⟩ := oc_kid (r := r) hc N hn hl y3 y5
        exact ⟨b, oc_dp par kd bod r n, by omega, q1, y4, q2 (Or.inl hk), oc_En_mo (Nat.le_refl _) (by omega) (fun _ _ => ⟨rfl, rfl⟩) _ _ hE, rfl⟩
      · rw [hk] at k1; exact absurd k1 (by decide)
      · rw [hk] at k1; exact absurd k1 (by decide)
  · have lo : o * 16 + l < ob * 16 := by omega
    rw [oc_mt_lo m _ lo, oc_mt_lo m _ lo, oc_mt_lo m _ lo, oc_fi_lo 16 _ lo, oc_fi_lo 16 _ lo]
    exact oc_Ob_mo (Nat.le_refl _) (by omega) (fun _ _ => ⟨rfl, rfl⟩) h o l (by omega) hl'
theorem oc_Ob_upd {nc tc us ob v l0 b : Nat} {kd par num ann rcv bod mc ml mb co cr cb ce oe : Nat → Int32} {r n : Nat} {e : Int32} (hc : nc ≤ 32) (N : oc_Nd nc tc kd par num ann rcv bod mc ml mb) (hn : n < nc) (hl : oc_li par r n = true) (hb : b < n) (eb : bod n = nI b) (pb : par b = nI n) (hv : v < ob)
    (hE : oc_En co cr us ob (oc_dp par kd bod r n) e) (h : oc_Ob nc us ob par kd bod co cr cb ce oe r) :
    oc_Ob nc us (ob + 1) par kd bod co cr (upd (oc_tc cb v ob 16) (ob * 16 + l0) (nI b)) (upd (oc_tc ce v ob 16) (ob * 16 + l0) e) (upd (oc_tc oe v ob 16) (ob * 16 + l0) e) r := fun o l ho hl' => by
  by_cases z : o = ob
  · subst z
    by_cases y : l = l0
    · subst y
      right
      rw [pk_us, pk_us, pk_us]
      obtain ⟨q1, q2, -⟩ := oc_kid (r := r) hc N hn hl hb pb
      exact ⟨b, oc_dp par kd bod r n, by omega, q1, rfl, q2 (Or.inr eb), oc_En_mo (Nat.le_refl _) (by omega) (fun _ _ => ⟨rfl, rfl⟩) _ _ hE, rfl⟩
    · rw [pk_un (by omega), pk_un (by omega), pk_un (by omega), oc_tc_hi hv 16 l hl' (Nat.le_refl _), oc_tc_hi hv 16 l hl' (Nat.le_refl _), oc_tc_hi hv 16 l hl' (Nat.le_refl _)]
      exact oc_Ob_mo (Nat.le_refl _) (by omega) (fun _ _ => ⟨rfl, rfl⟩) h v l hv hl'
  · have lo : o * 16 + l < ob * 16 := by omega
    rw [pk_un (by omega), pk_un (by omega), pk_un (by omega), oc_tc_lo 16 _ lo, oc_tc_lo 16 _ lo, oc_tc_lo 16 _ lo]
    exact oc_Ob_mo (Nat.le_refl _) (by omega) (fun _ _ => ⟨rfl, rfl⟩) h o l (by omega) hl'
end
section
/-! small walks of both sides -/
theorem oc_10 : ¬ (1 : Int32) = 0 := by decide
theorem oc_xT1 {NC TC tc nc us ob : Nat} {fail res fl fc val : Int32} {tm mk kd par num ann rcv bod mc ml mb cd cb ce org co cr fn fe fp : Nat → Int32} {A B : Prop} {j : Nat} (hj : j < tc) (ht : tc ≤ 32) (hB : B) : wpX_isType (fun r => (r = 0 → A) ∧ (¬ r = 0 → B)) (nI NC, nI TC, nI tc, nI nc, fail, res, fl, nI us, nI ob, fc, val, tm, mk, kd, par, num, ann, rcv, bod, mc, ml, mb, cd, cb, ce, org, co, cr, fn, fe, fp) (nI j) :=
  br_f (nI_pos (by omega)) (br_f (nI_ge hj (by omega)) (br_f oc_10 hB))
theorem oc_xT0 {NC TC tc nc us ob : Nat} {fail res fl fc val : Int32} {tm mk kd par num ann rcv bod mc ml mb cd cb ce org co cr fn fe fp : Nat → Int32} {A B : Prop} {t : Int32} (hj : t < 0 ∨ nI tc ≤ t) (hA : A) : wpX_isType (fun r => (r = 0 → A) ∧ (¬ r = 0 → B)) (nI NC, nI TC, nI tc, nI nc, fail, res, fl, nI us, nI ob, fc, val, tm, mk, kd, par, num, ann, rcv, bod, mc, ml, mb, cd, cb, ce, org, co, cr, fn, fe, fp) t :=
  br_c (fun _ => br_t rfl hA) (fun h => br_t (hj.resolve_left h) (br_t rfl hA))
theorem oc_xN1 {NC TC tc nc us ob : Nat} {fail res fl fc val : Int32} {tm mk kd par num ann rcv bod mc ml mb cd cb ce org co cr fn fe fp : Nat → Int32} {A B : Prop} {j : Nat} (hj : j < nc) (ht : nc ≤ 32) (hB : B) : wpX_isNode (fun r => (r = 0 → A) ∧ (¬ r = 0 → B)) (nI NC, nI TC, nI tc, nI nc, fail, res, fl, nI us, nI ob, fc, val, tm, mk, kd, par, num, ann, rcv, bod, mc, ml, mb, cd, cb, ce, org, co, cr, fn, fe, fp) (nI j) :=
  br_f (nI_pos (by omega)) (br_f (nI_ge hj (by omega)) (br_f oc_10 hB))
theorem oc_xN0 {NC TC tc nc us ob : Nat} {fail res fl fc val : Int32} {tm mk kd par num ann rcv bod mc ml mb cd cb ce org co cr fn fe fp : Nat → Int32} {A B : Prop} {t : Int32} (hj : t < 0 ∨ nI nc ≤ t) (hA : A) : wpX_isNode (fun r => (r = 0 → A) ∧ (¬ r = 0 → B)) (nI NC, nI TC, nI tc, nI nc, fail, res, fl, nI us, nI ob, fc, val, tm, mk, kd, par, num, ann, rcv, bod, mc, ml, mb, cd, cb, ce, org, co, cr, fn, fe, fp) t :=
  br_c (fun _ => br_t rfl hA) (fun h => br_t (hj.resolve_left h) (br_t rfl hA))
theorem oc_yT1 {NC TC tc nc us ob : Nat} {fail sp ret fu res : Int32} {tm kY nk rcv bod ann par mc ml mb rt rn cb oe org co cr gn ge gd gs : Nat → Int32} {A B : Prop} {j : Nat} (hj : j < tc) (ht : tc ≤ 32) (hB : B) : wpY_validType (fun r => (r = 0 → A) ∧ (¬ r = 0 → B)) (nI NC, nI TC, nI tc, nI nc, fail, sp, ret, nI us, nI ob, fu, res, tm, kY, nk, rcv, bod, ann, par, mc, ml, mb, rt, rn, cb, oe, org, co, cr, gn, ge, gd, gs) (nI j) :=
  br_f (nI_pos (by omega)) (br_f (nI_ge hj (by omega)) (br_f oc_10 hB))
theorem oc_yT0 {NC TC tc nc us ob : Nat} {fail sp ret fu res : Int32} {tm kY nk rcv bod ann par mc ml mb rt rn cb oe org co cr gn ge gd gs : Nat → Int32} {A B : Prop} {t : Int32} (hj : t < 0 ∨ nI tc ≤ t) (hA : A) : wpY_validType (fun r => (r = 0 → A) ∧ (¬ r = 0 → B)) (nI NC, nI TC, nI tc, nI nc, fail, sp, ret, nI us, nI ob, fu, res, tm, kY, nk, rcv, bod, ann, par, mc, ml, mb, rt, rn, cb, oe, org, co, cr, gn, ge, gd, gs) t :=
  br_c (fun _ => br_t rfl hA) (fun h => br_t (hj.resolve_left h) (br_t rfl hA))
theorem oc_yN1 {NC TC tc nc us ob : Nat} {fail sp ret fu res : Int32} {tm kY nk rcv bod ann par mc ml mb rt rn cb oe org co cr gn ge gd gs : Nat → Int32} {A B : Prop} {j : Nat} (hj : j < nc) (ht : nc ≤ 32) (hB : B) : wpY_validNode (fun r => (r = 0 → A) ∧ (¬ r = 0 → B)) (nI NC, nI TC, nI tc, nI nc, fail, sp, ret, nI us, nI ob, fu, res, tm, kY, nk, rcv, bod, ann, par, mc, ml, mb, rt, rn, cb, oe, org, co, cr, gn, ge, gd, gs) (nI j) :=
  br_f (nI_pos (by omega)) (br_f (nI_ge hj (by omega)) (br_f oc_10 hB))
theorem oc_yN0 {NC TC tc nc us ob : Nat} {fail sp ret fu res : Int32} {tm kY nk rcv bod ann par mc ml mb rt rn cb oe org co cr gn ge gd gs : Nat → Int32} {A B : Prop} {t : Int32} (hj : t < 0 ∨ nI nc ≤ t) (hA : A) : wpY_validNode (fun r => (r = 0 → A) ∧ (¬ r = 0 → B)) (nI NC, nI TC, nI tc, nI nc, fail, sp, ret, nI us, nI ob, fu, res, tm, kY, nk, rcv, bod, ann, par, mc, ml, mb, rt, rn, cb, oe, org, co, cr, gn, ge, gd, gs) t :=
  br_c (fun _ => br_t rfl hA) (fun h => br_t (hj.resolve_left h) (br_t rfl hA))
theorem oc_15 {l : Nat} (h : l < 16) : ¬ (15 : Int32) < nI l := nI_nlt (a := 15) (by omega) (by omega)
theorem oc_15' {t : Int32} (h : nI 16 ≤ t) : (15 : Int32) < t := by
  rw [Int32.lt_iff_toInt_lt]
  rw [Int32.le_iff_toInt_le, nI_toInt (by omega)] at h
  have : (15 : Int32).toInt = 15 := by decide
  omega
theorem oc_15l {l : Nat} (h : l < 16) : nI l ≤ (15 : Int32) := nI_le (b := 15) (by omega) (by omega)
theorem oc_15n {t : Int32} (h : nI 16 ≤ t) : ¬ t ≤ (15 : Int32) := fun q => absurd (oc_15' h) (Int32.not_lt.mpr q)
theorem oc_xL1 {A B : Prop} {l : Nat} (h : l < 16) (hB : B) : wpX_isLabel (fun r => (r = 0 → A) ∧ (¬ r = 0 → B)) (nI l) :=
  br_f (nI_pos (by omega)) (br_f (oc_15 h) (br_f oc_10 hB))
theorem oc_xL0 {A B : Prop} {t : Int32} (h : t < 0 ∨ nI 16 ≤ t) (hA : A) : wpX_isLabel (fun r => (r = 0 → A) ∧ (¬ r = 0 → B)) t :=
  br_c (fun _ => br_t rfl hA) (fun z => br_t (oc_15' (h.resolve_left z)) (br_t rfl hA))
theorem oc_la1 {A A' B : Prop} {l : Nat} (h : l < 16) (hB : B) : (nI l < 0 → A) ∧ (¬ nI l < 0 → ((15 < nI l → A') ∧ (¬ 15 < nI l → B))) :=
  br_f (nI_pos (by omega)) (br_f (oc_15 h) hB)
theorem oc_la0 {A B : Prop} {t : Int32} (h : t < 0 ∨ nI 16 ≤ t) (hA : A) : (t < 0 → A) ∧ (¬ t < 0 → ((15 < t → A) ∧ (¬ 15 < t → B))) :=
  br_c (fun _ => hA) (fun z => br_t (oc_15' (h.resolve_left z)) hA)
theorem oc_lb1 {A A' B : Prop} {l : Nat} (h : l < 16) (hB : B) : (nI l < 0 → A) ∧ (¬ nI l < 0 → ((nI l ≤ 15 → B) ∧ (¬ nI l ≤ 15 → A'))) :=
  br_f (nI_pos (by omega)) (br_t (oc_15l h) hB)
theorem oc_lb0 {A B : Prop} {t : Int32} (h : t < 0 ∨ nI 16 ≤ t) (hA : A) : (t < 0 → A) ∧ (¬ t < 0 → ((t ≤ 15 → B) ∧ (¬ t ≤ 15 → A))) :=
  br_c (fun _ => hA) (fun z => br_f (oc_15n (h.resolve_left z)) hA)
theorem oc_ix (x : Int32) {n : Nat} (hn : n ≤ 512) : (x < 0 ∨ nI n ≤ x) ∨ ∃ j : Nat, j < n ∧ x = nI j := by
  rcases pk_ix x (n := n) (by omega) with h | h | h
  · exact Or.inl (Or.inl h)
  · exact Or.inl (Or.inr h)
  · exact Or.inr h
/-- the cell of a type or an object and a label -/
theorem oc_i16 (a b : Nat) : nI a * 16 + nI b = nI (a * 16 + b) := by
  rw [show (16 : Int32) = nI 16 from rfl, pk_mul, nI_add]
theorem oc_i8 (a b : Nat) : nI a * 8 + nI b = nI (a * 8 + b) := by
  rw [show (8 : Int32) = nI 8 from rfl, pk_mul, nI_add]
theorem oc_v16 {a b : Nat} (ha : a < 32) (hb : b < 16) : vp_in (nI a * 16 + nI b) 512 := by
  rw [oc_i16]; exact vp_in_nI (by omega) (by omega)
theorem oc_k16 {a b : Nat} (ha : a < 32) (hb : b < 16) : (nI a * 16 + nI b).toNatClampNeg = a * 16 + b := by
  rw [oc_i16]; exact nI_clamp (by omega)
theorem oc_v8 {a b : Nat} (ha : a < 32) (hb : b < 8) : vp_in (nI a * 8 + nI b) 256 := by
  rw [oc_i8]; exact vp_in_nI (by omega) (by omega)
theorem oc_k8 {a b : Nat} (ha : a < 32) (hb : b < 8) : (nI a * 8 + nI b).toNatClampNeg = a * 8 + b := by
  rw [oc_i8]; exact nI_clamp (by omega)
/-! the relation -/
def oc_Inv (NC TC tc nc us ob : Nat) (res : Int32) (tm mk kd par num ann rcv bod mc ml mb kY nk : Nat → Int32) : Prop :=
  NC ≤ 32 ∧ TC ≤ 32 ∧ 2 ≤ tc ∧ tc ≤ TC ∧ nc ≤ NC ∧ us ≤ 128 ∧ ob ≤ 32 ∧ oc_Nd nc tc kd par num ann rcv bod mc ml mb ∧ oc_Ty tc tm mk ∧ (∀ n, nc ≤ n → mc n = 0) ∧
  (∀ n, n < nc → kY n = kd n + 1 ∧ (¬ kd n = 1 → nk n = num n)) ∧ (res = -1 ∨ ∃ o, o < ob ∧ res = nI o)
def i_Rel (_ : Nat) (u : SX) (v : SY) : Prop := ∃ (NC TC tc nc us ob : Nat) (fail res fl fc val sp ret fu : Int32) (tm mk kd par num ann rcv bod mc ml mb cd cb ce org co cr fn fe fp kY nk rt rn oe gn ge gd gs : Nat → Int32), u = (nI NC, nI TC, nI tc, nI nc, fail, res, fl, nI us, nI ob, fc, val, tm, mk, kd, par, num, ann, rcv, bod, mc, ml, mb, cd, cb, ce, org, co, cr, fn, fe, fp) ∧ v = (nI NC, nI TC, nI tc, nI nc, fail, sp, ret, nI us, nI ob, fu, res, tm, kY, nk, rcv, bod, ann, par, mc, ml, mb, rt, rn, cb, oe, org, co, cr, gn, ge, gd, gs) ∧ oc_Inv NC TC tc nc us ob res tm mk kd par num ann rcv bod mc ml mb kY nk
theorem i_up {k : Nat} {u : SX} {v : SY} (h : i_Rel k u v) : i_Rel (k + 5) u v := h
theorem oc_mk {k : Nat} {NC TC tc nc us ob : Nat} {fail res fl fc val sp ret fu : Int32} {tm mk kd par num ann rcv bod mc ml mb cd cb ce org co cr fn fe fp kY nk rt rn oe gn ge gd gs : Nat → Int32} (h : oc_Inv NC TC tc nc us ob res tm mk kd par num ann rcv bod mc ml mb kY nk) : i_Rel k (nI NC, nI TC, nI tc, nI nc, fail, res, fl, nI us, nI ob, fc, val, tm, mk, kd, par, num, ann, rcv, bod, mc, ml, mb, cd, cb, ce, org, co, cr, fn, fe, fp) (nI NC, nI TC, nI tc, nI nc, fail, sp, ret, nI us, nI ob, fu, res, tm, kY, nk, rcv, bod, ann, par, mc, ml, mb, rt, rn, cb, oe, org, co, cr, gn, ge, gd, gs) :=
  ⟨NC, TC, tc, nc, us, ob, fail, res, fl, fc, val, sp, ret, fu, tm, mk, kd, par, num, ann, rcv, bod, mc, ml, mb, cd, cb, ce, org, co, cr, fn, fe, fp, kY, nk, rt, rn, oe, gn, ge, gd, gs, rfl, rfl, h⟩
end
section
/-! types: subtyping, extension, counting of labels -/
theorem oc_xfl {NC TC tc nc us ob : Nat} {fail res fl fc val : Int32} {tm mk kd par num ann rcv bod mc ml mb cd cb ce org co cr fn fe fp : Nat → Int32} {post : Int32 → Prop} {a b : Nat} (ha : a < 32) (hb : b < 32) : ∀ d l, l + d = 16 →
    ((∀ l', l ≤ l' → l' < 16 → tm (b * 16 + l') = -1 ∨ tm (a * 16 + l') = tm (b * 16 + l')) → post 1) →
    ((¬ ∀ l', l ≤ l' → l' < 16 → tm (b * 16 + l') = -1 ∨ tm (a * 16 + l') = tm (b * 16 + l')) → post 0) →
    wX_fits_19 post (nI a) (nI b) (nI NC) (nI TC) (nI tc) (nI nc) fail res fl (nI us) (nI ob) fc val tm mk kd par num ann rcv bod mc ml mb cd cb ce org co cr fn fe fp (d + 1) (nI l) := by
  intro d
  induction d with
  | zero =>
    intro l hl h1 h0
    exact br_t (nI_le (a := 16) (by omega) (by omega)) (h1 fun l' x y => by omega)
  | succ d ih =>
    intro l hl h1 h0
    refine br_f (nI_ge (b := 16) (by omega) (by omega)) ⟨oc_v16 hb (by omega), nm_r (congrArg tm (oc_k16 hb (by omega))) ?_⟩
    by_cases z : tm (b * 16 + l) = -1
    · refine br_t z (nm_r (nI_1 l) (ih (l + 1) (by omega) (fun q => h1 fun l' x y => ?_) (fun q => h0 fun w => q fun l' x y => w l' (by omega) y)))
      by_cases e : l' = l
      · rw [e]; exact Or.inl z
      · exact q l' (by omega) y
    · refine br_f z ⟨oc_v16 ha (by omega), ?_⟩
      by_cases y : tm (a * 16 + l) = tm (b * 16 + l)
      · refine br_t (by rw [oc_k16 ha (by omega)]; exact y) (nm_r (nI_1 l) (ih (l + 1) (by omega) (fun q => h1 fun l' x y' => ?_) (fun q => h0 fun w => q fun l' x y' => w l' (by omega) y')))
        by_cases e : l' = l
        · rw [e]; exact Or.inr y
        · exact q l' (by omega) y'
      · exact br_f (by rw [oc_k16 ha (by omega)]; exact y) (h0 fun w => (w l (Nat.le_refl _) (by omega)).elim z y)
theorem oc_yfl {NC TC tc nc us ob : Nat} {fail sp ret fu res : Int32} {tm kY nk rcv bod ann par mc ml mb rt rn cb oe org co cr gn ge gd gs : Nat → Int32} {post : Int32 → Prop} {a b : Nat} (ha : a < 32) (hb : b < 32) : ∀ d l, l + d = 16 →
    ((∀ l', l ≤ l' → l' < 16 → tm (b * 16 + l') = -1 ∨ tm (a * 16 + l') = tm (b * 16 + l')) → post 1) →
    ((¬ ∀ l', l ≤ l' → l' < 16 → tm (b * 16 + l') = -1 ∨ tm (a * 16 + l') = tm (b * 16 + l')) → post 0) →
    wY_isSubtype_37 post (nI a) (nI b) (nI NC) (nI TC) (nI tc) (nI nc) fail sp ret (nI us) (nI ob) fu res tm kY nk rcv bod ann par mc ml mb rt rn cb oe org co cr gn ge gd gs (d + 1) (nI l) := by
  intro d
  induction d with
  | zero =>
    intro l hl h1 h0
    exact br_t (nI_le (a := 16) (by omega) (by omega)) (h1 fun l' x y => by omega)
  | succ d ih =>
    intro l hl h1 h0
    refine br_f (nI_ge (b := 16) (by omega) (by omega)) ⟨oc_v16 hb (by omega), nm_r (congrArg tm (oc_k16 hb (by omega))) ?_⟩
    by_cases z : tm (b * 16 + l) = -1
    · refine br_t z (nm_r (nI_1 l) (ih (l + 1) (by omega) (fun q => h1 fun l' x y => ?_) (fun q => h0 fun w => q fun l' x y => w l' (by omega) y)))
      by_cases e : l' = l
      · rw [e]; exact Or.inl z
      · exact q l' (by omega) y
    · refine br_f z ⟨oc_v16 ha (by omega), ?_⟩
      by_cases y : tm (a * 16 + l) = tm (b * 16 + l)
      · refine br_t (by rw [oc_k16 ha (by omega)]; exact y) (nm_r (nI_1 l) (ih (l + 1) (by omega) (fun q => h1 fun l' x y' => ?_) (fun q => h0 fun w => q fun l' x y' => w l' (by omega) y')))
        by_cases e : l' = l
        · rw [e]; exact Or.inr y
        · exact q l' (by omega) y'
      · exact br_f (by rw [oc_k16 ha (by omega)]; exact y) (h0 fun w => (w l (Nat.le_refl _) (by omega)).elim z y)
theorem oc_xfits {NC TC tc nc us ob : Nat} {fail res fl fc val : Int32} {tm mk kd par num ann rcv bod mc ml mb cd cb ce org co cr fn fe fp : Nat → Int32} {post : Int32 → Prop} {a b : Nat} (ha : a < 32) (hb : b < 32) (h1 : oc_sub tm a b → post 1) (h0 : ¬ oc_sub tm a b → post 0) : wpX_fits post (nI NC, nI TC, nI tc, nI nc, fail, res, fl, nI us, nI ob, fc, val, tm, mk, kd, par, num, ann, rcv, bod, mc, ml, mb, cd, cb, ce, org, co, cr, fn, fe, fp) (nI a) (nI b) := by
  refine pk_eq a b (fun e => h1 (Or.inl e)) (fun e => pk_eq b 0 (fun e0 => h1 (Or.inr (Or.inl e0))) (fun e0 => pk_eq a 0 (fun ea => h0 fun q => ?_) (fun ea => ⟨17, ?_⟩)))
  · rcases q with q | q | q
    · exact e q
    · exact e0 q
    · exact q.1 ea
  · refine oc_xfl ha hb 16 0 (by omega) (fun q => h1 (Or.inr (Or.inr ⟨ea, fun l hl => q l (Nat.zero_le _) hl⟩))) (fun q => h0 fun w => ?_)
    rcases w with w | w | w
    · exact e w
    · exact e0 w
    · exact q fun l _ hl => w.2 l hl
theorem oc_ysub {NC TC tc nc us ob : Nat} {fail sp ret fu res : Int32} {tm kY nk rcv bod ann par mc ml mb rt rn cb oe org co cr gn ge gd gs : Nat → Int32} {post : Int32 → Prop} {a b : Nat} (ht : tc ≤ 32) (ha : a < tc) (hb : b < tc) (h1 : oc_sub tm a b → post 1) (h0 : ¬ oc_sub tm a b → post 0) : wpY_isSubtype post (nI NC, nI TC, nI tc, nI nc, fail, sp, ret, nI us, nI ob, fu, res, tm, kY, nk, rcv, bod, ann, par, mc, ml, mb, rt, rn, cb, oe, org, co, cr, gn, ge, gd, gs) (nI a) (nI b) := by
  unfold wpY_isSubtype
  refine oc_yT1 ha ht (oc_yT1 hb ht ?_)
  refine pk_eq a b (fun e => h1 (Or.inl e)) (fun e => pk_eq b 0 (fun e0 => h1 (Or.inr (Or.inl e0))) (fun e0 => pk_eq a 0 (fun ea => h0 fun q => ?_) (fun ea => ⟨17, ?_⟩)))
  · rcases q with q | q | q
    · exact e q
    · exact e0 q
    · exact q.1 ea
  · refine oc_yfl (by omega) (by omega) 16 0 (by omega) (fun q => h1 (Or.inr (Or.inr ⟨ea, fun l hl => q l (Nat.zero_le _) hl⟩))) (fun q => h0 fun w => ?_)
    rcases w with w | w | w
    · exact e w
    · exact e0 w
    · exact q fun l _ hl => w.2 l hl
theorem i_vc_isSubtype {k : Nat} {u : SX} {v : SY} (I : i_Rel k u v) (hk : k + 5 ≤ 2562) (v1 : Int32) (v2 : Int32) : wpX_isSubtype (fun r => wpY_isSubtype (fun r' => r' = r ∧ i_Rel (k + 5) u v) v v1 v2) u v1 v2 := by
  have J : i_Rel (k + 5) u v := I
  obtain ⟨NC, TC, tc, nc, us, ob, fail, res, fl, fc, val, sp, ret, fu, tm, mk, kd, par, num, ann, rcv, bod, mc, ml, mb, cd, cb, ce, org, co, cr, fn, fe, fp, kY, nk, rt, rn, oe, gn, ge, gd, gs, rfl, rfl, h1, h2, h3, h4, h5, h6, h7, hN, hT, hm, hK, hr⟩ := I
  unfold wpX_isSubtype
  rcases oc_ix v1 (n := tc) (by omega) with a | ⟨a, ha, rfl⟩
  · refine oc_xT0 a ?_
    unfold wpY_isSubtype
    exact oc_yT0 a ⟨rfl, J⟩
  · refine oc_xT1 ha (by omega) ?_
    rcases oc_ix v2 (n := tc) (by omega) with b | ⟨b, hb, rfl⟩
    · refine oc_xT0 b ?_
      unfold wpY_isSubtype
      exact oc_yT1 ha (by omega) (oc_yT0 b ⟨rfl, J⟩)
    · refine oc_xT1 hb (by omega) (oc_xfits (by omega) (by omega) (fun s => br_f oc_10 ?_) (fun s => br_t rfl ?_))
      · exact oc_ysub (by omega) ha hb (fun _ => ⟨rfl, J⟩) (fun q => absurd s q)
      · exact oc_ysub (by omega) ha hb (fun q => absurd q s) (fun _ => ⟨rfl, J⟩)
theorem i_vc_typeMember {k : Nat} {u : SX} {v : SY} (I : i_Rel k u v) (hk : k + 5 ≤ 2562) (v1 : Int32) (v2 : Int32) : wpX_typeMember (fun r => wpY_typeMember (fun r' => r' = r ∧ i_Rel (k + 5) u v) v v1 v2) u v1 v2 := by
  have J : i_Rel (k + 5) u v := I
  obtain ⟨NC, TC, tc, nc, us, ob, fail, res, fl, fc, val, sp, ret, fu, tm, mk, kd, par, num, ann, rcv, bod, mc, ml, mb, cd, cb, ce, org, co, cr, fn, fe, fp, kY, nk, rt, rn, oe, gn, ge, gd, gs, rfl, rfl, h1, h2, h3, h4, h5, h6, h7, hN, hT, hm, hK, hr⟩ := I
  unfold wpX_typeMember
  rcases oc_ix v1 (n := tc) (by omega) with a | ⟨a, ha, rfl⟩
  · refine oc_xT0 a ?_
    unfold wpY_typeMember
    exact oc_yT0 a ⟨rfl, J⟩
  · refine oc_xT1 ha (by omega) ?_
    rcases oc_ix v2 (n := 16) (by omega) with b | ⟨b, hb, rfl⟩
    · refine oc_xL0 b ?_
      unfold wpY_typeMember
      exact oc_yT1 ha (by omega) (br_c (fun _ => ⟨rfl, J⟩) (fun _ => oc_lb0 b ⟨rfl, J⟩))
    · refine oc_xL1 hb ⟨oc_v16 (by omega) hb, ?_⟩
      unfold wpY_typeMember
      refine oc_yT1 ha (by omega) (pk_eq a 0 (fun e => ?_) (fun e => oc_lb1 hb ⟨oc_v16 (by omega) hb, rfl, J⟩))
      refine ⟨?_, J⟩
      rw [oc_k16 (by omega) hb, e, Nat.zero_mul, Nat.zero_add, hT.1 b hb]
/-! a type's extension -/
def oc_ext (tm : Nat → Int32) (t l m i : Nat) : Prop := tm (i * 16 + l) = nI m ∧ ∀ j, j < 16 → j ≠ l → tm (i * 16 + j) = tm (t * 16 + j)
theorem oc_xel {NC TC tc nc us ob : Nat} {fail res fl fc val : Int32} {tm mk kd par num ann rcv bod mc ml mb cd cb ce org co cr fn fe fp : Nat → Int32} {post : Int32 → Prop} {t l m i : Nat} (ht : t < 32) (hl : l < 16) (hi : i < 32) : ∀ d x, x + d = 16 →
    ((∀ j, x ≤ j → j < 16 → (j = l → tm (i * 16 + l) = nI m) ∧ (j ≠ l → tm (i * 16 + j) = tm (t * 16 + j))) → post 1) →
    ((¬ ∀ j, x ≤ j → j < 16 → (j = l → tm (i * 16 + l) = nI m) ∧ (j ≠ l → tm (i * 16 + j) = tm (t * 16 + j))) → post 0) →
    wX_isExtension_3 post (nI i) (nI t) (nI l) (nI m) (nI NC) (nI TC) (nI tc) (nI nc) fail res fl (nI us) (nI ob) fc val tm mk kd par num ann rcv bod mc ml mb cd cb ce org co cr fn fe fp (d + 1) (nI x) := by
  intro d
  induction d with
  | zero =>
    intro x hx h1 h0
    exact br_t (nI_le (a := 16) (by omega) (by omega)) (h1 fun l' x y => by omega)
  | succ d ih =>
    intro x hx h1 h0
    refine br_f (nI_ge (b := 16) (by omega) (by omega)) (pk_eq x l (fun e => ⟨oc_v16 hi (by omega), ?_⟩) (fun e => ⟨oc_v16 ht (by omega), oc_v16 hi (by omega), ?_⟩))
    · rw [oc_k16 hi (by omega), e]
      by_cases z : tm (i * 16 + l) = nI m
      · refine br_t z (nm_r (by rw [← e]; exact nI_1 x) (ih (x + 1) (by omega) (fun q => h1 fun j a b => ?_) (fun q => h0 fun w => q fun j a b => w j (by omega) b)))
        by_cases y : j = l
        · exact ⟨fun _ => z, fun n => absurd y n⟩
        · exact q j (by omega) b
      · exact br_f z (h0 fun w => z ((w l (by omega) hl).1 rfl))
    · rw [oc_k16 hi (by omega), oc_k16 ht (by omega)]
      by_cases z : tm (i * 16 + x) = tm (t * 16 + x)
      · refine br_t z (nm_r (nI_1 x) (ih (x + 1) (by omega) (fun q => h1 fun j a b => ?_) (fun q => h0 fun w => q fun j a b => w j (by omega) b)))
        by_cases y : j = x
        · rw [y]; exact ⟨fun n => absurd n e, fun _ => z⟩
        · exact q j (by omega) b
      · exact br_f z (h0 fun w => z ((w x (Nat.le_refl _) (by omega)).2 e))
theorem oc_yel {NC TC tc nc us ob : Nat} {fail sp ret fu res : Int32} {tm kY nk rcv bod ann par mc ml mb rt rn cb oe org co cr gn ge gd gs : Nat → Int32} {post : Int32 → Prop} {t l m i : Nat} (ht : t < 32) (hl : l < 16) (hi : i < 32) : ∀ d x, x + d = 16 →
    ((∀ j, x ≤ j → j < 16 → (j = l → tm (i * 16 + l) = nI m) ∧ (j ≠ l → tm (i * 16 + j) = tm (t * 16 + j))) → post 1) →
    ((¬ ∀ j, x ≤ j → j < 16 → (j = l → tm (i * 16 + l) = nI m) ∧ (j ≠ l → tm (i * 16 + j) = tm (t * 16 + j))) → post 0) →
    wY_sameAsExtended_3 post (nI i) (nI t) (nI l) (nI m) (nI NC) (nI TC) (nI tc) (nI nc) fail sp ret (nI us) (nI ob) fu res tm kY nk rcv bod ann par mc ml mb rt rn cb oe org co cr gn ge gd gs (d + 1) (nI x) := by
  intro d
  induction d with
  | zero =>
    intro x hx h1 h0
    exact br_t (nI_le (a := 16) (by omega) (by omega)) (h1 fun l' x y => by omega)
  | succ d ih =>
    intro x hx h1 h0
    refine br_f (nI_ge (b := 16) (by omega) (by omega)) (pk_eq x l (fun e => ⟨oc_v16 hi (by omega), ?_⟩) (fun e => ⟨oc_v16 ht (by omega), oc_v16 hi (by omega), ?_⟩))
    · rw [oc_k16 hi (by omega), e]
      by_cases z : tm (i * 16 + l) = nI m
      · refine br_t z (nm_r (by rw [← e]; exact nI_1 x) (ih (x + 1) (by omega) (fun q => h1 fun j a b => ?_) (fun q => h0 fun w => q fun j a b => w j (by omega) b)))
        by_cases y : j = l
        · exact ⟨fun _ => z, fun n => absurd y n⟩
        · exact q j (by omega) b
      · exact br_f z (h0 fun w => z ((w l (by omega) hl).1 rfl))
    · rw [oc_k16 hi (by omega), oc_k16 ht (by omega)]
      by_cases z : tm (i * 16 + x) = tm (t * 16 + x)
      · refine br_t z (nm_r (nI_1 x) (ih (x + 1) (by omega) (fun q => h1 fun j a b => ?_) (fun q => h0 fun w => q fun j a b => w j (by omega) b)))
        by_cases y : j = x
        · rw [y]; exact ⟨fun n => absurd n e, fun _ => z⟩
        · exact q j (by omega) b
      · exact br_f z (h0 fun w => z ((w x (Nat.le_refl _) (by omega)).2 e))
theorem oc_xext {NC TC tc nc us ob : Nat} {fail res fl fc val : Int32} {tm mk kd par num ann rcv bod mc ml mb cd cb ce org co cr fn fe fp : Nat → Int32} {post : Int32 → Prop} {t l m i : Nat} (ht : t < 32) (hl : l < 16) (hi : i < 32) (h1 : oc_ext tm t l m i → post 1) (h0 : ¬ oc_ext tm t l m i → post 0) : wpX_isExtension post (nI NC, nI TC, nI tc, nI nc, fail, res, fl, nI us, nI ob, fc, val, tm, mk, kd, par, num, ann, rcv, bod, mc, ml, mb, cd, cb, ce, org, co, cr, fn, fe, fp) (nI i) (nI t) (nI l) (nI m) :=
  ⟨17, oc_xel ht hl hi 16 0 rfl (fun q => h1 ⟨(q l (Nat.zero_le _) hl).1 rfl, fun j hj ne => (q j (Nat.zero_le _) hj).2 ne⟩)
    (fun q => h0 fun w => q fun j _ hj => ⟨fun _ => w.1, fun ne => w.2 j hj ne⟩)⟩
theorem oc_yext {NC TC tc nc us ob : Nat} {fail sp ret fu res : Int32} {tm kY nk rcv bod ann par mc ml mb rt rn cb oe org co cr gn ge gd gs : Nat → Int32} {post : Int32 → Prop} {t l m i : Nat} (ht : t < 32) (hl : l < 16) (hi : i < 32) (h1 : oc_ext tm t l m i → post 1) (h0 : ¬ oc_ext tm t l m i → post 0) : wpY_sameAsExtended post (nI NC, nI TC, nI tc, nI nc, fail, sp, ret, nI us, nI ob, fu, res, tm, kY, nk, rcv, bod, ann, par, mc, ml, mb, rt, rn, cb, oe, org, co, cr, gn, ge, gd, gs) (nI i) (nI t) (nI l) (nI m) :=
  ⟨17, oc_yel ht hl hi 16 0 rfl (fun q => h1 ⟨(q l (Nat.zero_le _) hl).1 rfl, fun j hj ne => (q j (Nat.zero_le _) hj).2 ne⟩)
    (fun q => h0 fun w => q fun j _ hj => ⟨fun _ => w.1, fun ne => w.2 j hj ne⟩)⟩
theorem oc_ylc {NC TC tc nc us ob : Nat} {fail sp ret fu res : Int32} {tm kY nk rcv bod ann par mc ml mb rt rn cb oe org co cr gn ge gd gs : Nat → Int32} {post : Int32 → Prop} {t : Nat} (ht : t < 32) (h : post (nI (oc_lc tm t))) : wpY_labelCount post (nI NC, nI TC, nI tc, nI nc, fail, sp, ret, nI us, nI ob, fu, res, tm, kY, nk, rcv, bod, ann, par, mc, ml, mb, rt, rn, cb, oe, org, co, cr, gn, ge, gd, gs) (nI t) := by
  have key : ∀ d l, l + d = 16 → wY_labelCount_4 post (nI t) (nI NC) (nI TC) (nI tc) (nI nc) fail sp ret (nI us) (nI ob) fu res tm kY nk rcv bod ann par mc ml mb rt rn cb oe org co cr gn ge gd gs (d + 1) (nI (oc_sm (fun l => if tm (t * 16 + l) = -1 then 0 else 1) l)) (nI l) := by
    intro d
    induction d with
    | zero =>
      intro l hl
      rw [show l = 16 by omega]
      exact br_t (nI_le (a := 16) (by omega) (by omega)) h
    | succ d ih =>
      intro l hl
      refine br_f (nI_ge (b := 16) (by omega) (by omega)) ⟨oc_v16 ht (by omega), ?_⟩
      have e := ih (l + 1) (by omega)
      rw [oc_sm] at e
      by_cases z : tm (t * 16 + l) = -1
      · rw [if_pos z, Nat.add_zero] at e
        exact br_t (by rw [oc_k16 ht (by omega)]; exact z) (nm_r (nI_1 l) e)
      · rw [if_neg z] at e
        exact br_f (by rw [oc_k16 ht (by omega)]; exact z) (nm_r (nI_1 _) (nm_r (nI_1 l) e))
  exact ⟨17, key 16 0 rfl⟩
theorem oc_xnew {NC TC tc nc us ob : Nat} {fail res fl fc val : Int32} {tm mk kd par num ann rcv bod mc ml mb cd cb ce org co cr fn fe fp : Nat → Int32} {post : Int32 → SX → Prop} {t l : Nat} {m : Int32} (htc : tc < 32) (ht : t < tc) (hl : l < 16) (hmk : mk t = nI (oc_lc tm t)) (h : post (nI tc) (nI NC, nI TC, nI (tc + 1), nI nc, fail, res, fl, nI us, nI ob, fc, val, upd (oc_tc tm t tc 16) (tc * 16 + l) m, upd mk tc (nI (oc_lc tm t + 1)), kd, par, num, ann, rcv, bod, mc, ml, mb, cd, cb, ce, org, co, cr, fn, fe, fp)) : wpX_newType post (nI NC, nI TC, nI tc, nI nc, fail, res, fl, nI us, nI ob, fc, val, tm, mk, kd, par, num, ann, rcv, bod, mc, ml, mb, cd, cb, ce, org, co, cr, fn, fe, fp) (nI t) (nI l) m := by
  have key : ∀ d x, x + d = 16 → wX_newType_9 post (nI t) (nI l) m (nI tc) (nI NC) (nI TC) (nI tc) (nI nc) fail res fl (nI us) (nI ob) fc val (d + 1) (nI x) (oc_tc tm t tc x) mk kd par num ann rcv bod mc ml mb cd cb ce org co cr fn fe fp := by
    intro d
    induction d with
    | zero =>
      intro x hx
      rw [show x = 16 by omega]
      refine br_t (nI_le (a := 16) (by omega) (by omega)) ⟨oc_v16 htc hl, nm_e ⟨vp_in_nI (by omega) (by omega), vp_in_nI htc (by omega), nm_e (nm_e ?_)⟩⟩
      rw [oc_k16 htc hl, nI_clamp (n := tc) (by omega), nI_clamp (n := t) (by omega), hmk, nI_1, nI_1]
      exact h
    | succ d ih =>
      intro x hx
      refine br_f (nI_ge (b := 16) (by omega) (by omega)) ⟨oc_v16 (by omega) (by omega), oc_v16 htc (by omega), nm_e (nm_r (nI_1 x) ?_)⟩
      rw [oc_k16 htc (by omega), oc_k16 (by omega) (by omega)]
      exact ih (x + 1) (by omega)
  exact ⟨17, key 16 0 rfl⟩
theorem oc_ynew {NC TC tc nc us ob : Nat} {fail sp ret fu res : Int32} {tm kY nk rcv bod ann par mc ml mb rt rn cb oe org co cr gn ge gd gs : Nat → Int32} {post : Int32 → SY → Prop} {t l : Nat} {m : Int32} (htc : tc < 32) (ht : t < tc) (hl : l < 16) (h : post (nI tc) (nI NC, nI TC, nI (tc + 1), nI nc, fail, sp, ret, nI us, nI ob, fu, res, upd (oc_tc tm t tc 16) (tc * 16 + l) m, kY, nk, rcv, bod, ann, par, mc, ml, mb, rt, rn, cb, oe, org, co, cr, gn, ge, gd, gs)) : ∃ n, wY_extendType_114 post (nI t) (nI l) m (nI tc) (nI NC) (nI TC) (nI tc) (nI nc) fail sp ret (nI us) (nI ob) fu res n 0 tm kY nk rcv bod ann par mc ml mb rt rn cb oe org co cr gn ge gd gs := by
  have key : ∀ d x, x + d = 16 → wY_extendType_114 post (nI t) (nI l) m (nI tc) (nI NC) (nI TC) (nI tc) (nI nc) fail sp ret (nI us) (nI ob) fu res (d + 1) (nI x) (oc_tc tm t tc x) kY nk rcv bod ann par mc ml mb rt rn cb oe org co cr gn ge gd gs := by
    intro d
    induction d with
    | zero =>
      intro x hx
      rw [show x = 16 by omega]
      refine br_t (nI_le (a := 16) (by omega) (by omega)) ⟨oc_v16 htc hl, nm_e (nm_e ?_)⟩
      rw [oc_k16 htc hl, nI_1]
      exact h
    | succ d ih =>
      intro x hx
      refine br_f (nI_ge (b := 16) (by omega) (by omega)) ⟨oc_v16 (by omega) (by omega), oc_v16 htc (by omega), nm_e (nm_r (nI_1 x) ?_)⟩
      rw [oc_k16 htc (by omega), oc_k16 (by omega) (by omega)]
      exact ih (x + 1) (by omega)
  exact ⟨17, key 16 0 rfl⟩
theorem oc_xfind {NC TC tc nc us ob : Nat} {fail res fl fc val : Int32} {tm mk kd par num ann rcv bod mc ml mb cd cb ce org co cr fn fe fp : Nat → Int32} {post : Int32 → SX → Prop} {t l m : Nat} (hTC : TC ≤ 32) (htc : tc ≤ TC) (ht : t < tc) (hl : l < 16) (hmk : mk t = nI (oc_lc tm t)) : ∀ d i, i + d = tc →
    (∀ j, i ≤ j → j < tc → oc_ext tm t l m j → (∀ j', i ≤ j' → j' < j → ¬ oc_ext tm t l m j') → post (nI j) (nI NC, nI TC, nI tc, nI nc, fail, res, fl, nI us, nI ob, fc, val, tm, mk, kd, par, num, ann, rcv, bod, mc, ml, mb, cd, cb, ce, org, co, cr, fn, fe, fp)) →
    ((∀ j, i ≤ j → j < tc → ¬ oc_ext tm t l m j) → (tc < TC → post (nI tc) (nI NC, nI TC, nI (tc + 1), nI nc, fail, res, fl, nI us, nI ob, fc, val, upd (oc_tc tm t tc 16) (tc * 16 + l) (nI m), upd mk tc (nI (oc_lc tm t + 1)), kd, par, num, ann, rcv, bod, mc, ml, mb, cd, cb, ce, org, co, cr, fn, fe, fp)) ∧ (¬ tc < TC → post (-1) (nI NC, nI TC, nI tc, nI nc, fail, res, fl, nI us, nI ob, fc, val, tm, mk, kd, par, num, ann, rcv, bod, mc, ml, mb, cd, cb, ce, org, co, cr, fn, fe, fp))) →
    wX_extendType_60 post (nI t) (nI l) (nI m) (nI NC) (nI TC) (nI tc) (nI nc) fail res fl (nI us) (nI ob) fc val tm mk kd par num ann rcv bod mc ml mb cd cb ce org co cr fn fe fp (d + 1) (nI i) := by
  intro d
  induction d with
  | zero =>
    intro i hi hf he
    have E := he fun j a b => by omega
    rw [show i = tc by omega]
    refine br_t (nI_le (Nat.le_refl _) (by omega)) (pk_lt tc TC (fun q => ?_) (fun q => E.2 (by omega)))
    exact oc_xnew (by omega) ht hl hmk (E.1 q)
  | succ d ih =>
    intro i hi hf he
    refine br_f (nI_ge (by omega) (by omega)) (oc_xext (by omega) hl (by omega) (fun q => br_f oc_10 (hf i (Nat.le_refl _) (by omega) q fun j' a b => by omega)) (fun q => br_t rfl (nm_r (nI_1 i) (ih (i + 1) (by omega) (fun j a b c g => hf j (by omega) b c fun j' x y => ?_) (fun w => he fun j x y => ?_)))))
    · by_cases z : j' = i
      · rw [z]; exact q
      · exact g j' (by omega) y
    · by_cases z : j = i
      · rw [z]; exact q
      · exact w j (by omega) y
theorem oc_yfind {NC TC tc nc us ob : Nat} {fail sp ret fu res : Int32} {tm kY nk rcv bod ann par mc ml mb rt rn cb oe org co cr gn ge gd gs : Nat → Int32} {post : Int32 → SY → Prop} {t l m : Nat} (hTC : TC ≤ 32) (htc : tc ≤ TC) (ht : t < tc) (hl : l < 16) : ∀ d i, i + d = tc →
    (∀ j, i ≤ j → j < tc → oc_ext tm t l m j → (∀ j', i ≤ j' → j' < j → ¬ oc_ext tm t l m j') → post (nI j) (nI NC, nI TC, nI tc, nI nc, fail, sp, ret, nI us, nI ob, fu, res, tm, kY, nk, rcv, bod, ann, par, mc, ml, mb, rt, rn, cb, oe, org, co, cr, gn, ge, gd, gs)) →
    ((∀ j, i ≤ j → j < tc → ¬ oc_ext tm t l m j) → (tc < TC → post (nI tc) (nI NC, nI TC, nI (tc + 1), nI nc, fail, sp, ret, nI us, nI ob, fu, res, upd (oc_tc tm t tc 16) (tc * 16 + l) (nI m), kY, nk, rcv, bod, ann, par, mc, ml, mb, rt, rn, cb, oe, org, co, cr, gn, ge, gd, gs)) ∧ (¬ tc < TC → post (-1) (nI NC, nI TC, nI tc, nI nc, fail, sp, ret, nI us, nI ob, fu, res, tm, kY, nk, rcv, bod, ann, par, mc, ml, mb, rt, rn, cb, oe, org, co, cr, gn, ge, gd, gs))) →
    wY_extendType_62 post (nI t) (nI l) (nI m) (nI NC) (nI TC) (nI tc) (nI nc) fail sp ret (nI us) (nI ob) fu res tm kY nk rcv bod ann par mc ml mb rt rn cb oe org co cr gn ge gd gs (d + 1) (nI i) := by
  intro d
  induction d with
  | zero =>
    intro i hi hf he
    have E := he fun j a b => by omega
    rw [show i = tc by omega]
    refine br_t (nI_le (Nat.le_refl _) (by omega)) (pk_lt tc TC (fun q => ?_) (fun q => E.2 (by omega)))
    exact oc_ynew (by omega) ht hl (E.1 q)
  | succ d ih =>
    intro i hi hf he
    refine br_f (nI_ge (by omega) (by omega)) (oc_yext (by omega) hl (by omega) (fun q => br_f oc_10 (hf i (Nat.le_refl _) (by omega) q fun j' a b => by omega)) (fun q => br_t rfl (nm_r (nI_1 i) (ih (i + 1) (by omega) (fun j a b c g => hf j (by omega) b c fun j' x y => ?_) (fun w => he fun j x y => ?_)))))
    · by_cases z : j' = i
      · rw [z]; exact q
      · exact g j' (by omega) y
    · by_cases z : j = i
      · rw [z]; exact q
      · exact w j (by omega) y
theorem i_vc_extendType {k : Nat} {u : SX} {v : SY} (I : i_Rel k u v) (hk : k + 5 ≤ 2562) (v1 : Int32) (v2 : Int32) (v3 : Int32) : wpX_extendType (fun r u' => wpY_extendType (fun r' v' => r' = r ∧ i_Rel (k + 5) u' v') v v1 v2 v3) u v1 v2 v3 := by
  have J : i_Rel (k + 5) u v := I
  obtain ⟨NC, TC, tc, nc, us, ob, fail, res, fl, fc, val, sp, ret, fu, tm, mk, kd, par, num, ann, rcv, bod, mc, ml, mb, cd, cb, ce, org, co, cr, fn, fe, fp, kY, nk, rt, rn, oe, gn, ge, gd, gs, rfl, rfl, h1, h2, h3, h4, h5, h6, h7, hN, hT, hm, hK, hr⟩ := I
  unfold wpX_extendType
  rcases oc_ix v1 (n := tc) (by omega) with a | ⟨a, ha, rfl⟩
  · refine oc_xT0 a ?_
    unfold wpY_extendType
    exact oc_yT0 a ⟨rfl, J⟩
  refine oc_xT1 ha (by omega) (pk_eq a 0 (fun e => ?_) (fun e => ?_))
  · unfold wpY_extendType
    exact oc_yT1 ha (by omega) (pk_eq a 0 (fun _ => ⟨rfl, J⟩) (fun q => absurd e q))
  have na : ¬ nI a = 0 := nI_ne0 (by omega) (by omega)
  rcases oc_ix v2 (n := 16) (by omega) with b | ⟨b, hb, rfl⟩
  · refine oc_xL0 b ?_
    unfold wpY_extendType
    exact oc_yT1 ha (by omega) (br_f na (oc_la0 b ⟨rfl, J⟩))
  refine oc_xL1 hb ?_
  rcases oc_ix v3 (n := tc) (by omega) with c | ⟨c, hc, rfl⟩
  · refine oc_xT0 c ?_
    unfold wpY_extendType
    exact oc_yT1 ha (by omega) (br_f na (oc_la1 hb (oc_yT0 c ⟨rfl, J⟩)))
  refine oc_xT1 hc (by omega) ⟨oc_v16 (by omega) hb, ?_⟩
  rw [oc_k16 (by omega) hb]
  by_cases z : tm (a * 16 + b) = -1
  · refine br_t z ⟨vp_in_nI (by omega) (by omega), ?_⟩
    rw [nI_clamp (n := a) (by omega), (hT.2 a ha).1]
    have l16 := oc_lc_16 tm a
    refine pk_lt (oc_lc tm a) 8 (fun q => ⟨tc + 1, ?_⟩) (fun q => ?_)
    · have n0 : ¬ oc_ext tm a b c 0 := fun w => by
        have w1 := w.1
        rw [Nat.zero_mul, Nat.zero_add, hT.1 b hb] at w1
        exact oc_m1' (by omega) w1
      have Yw : ∀ (A : Int32) (XA : SX), wpY_labelCount (fun r => (r < 8 → ∃ n62, wY_extendType_62 (fun r' v' => r' = A ∧ i_Rel (k + 5) XA v') (nI a) (nI b) (nI c) (nI NC) (nI TC) (nI tc) (nI nc) fail sp ret (nI us) (nI ob) fu res tm kY nk rcv bod ann par mc ml mb rt rn cb oe org co cr gn ge gd gs n62 1) ∧ (¬ r < 8 → (-1 = A ∧ i_Rel (k + 5) XA (nI NC, nI TC, nI tc, nI nc, fail, sp, ret, nI us, nI ob, fu, res, tm, kY, nk, rcv, bod, ann, par, mc, ml, mb, rt, rn, cb, oe, org, co, cr, gn, ge, gd, gs)))) (nI NC, nI TC, nI tc, nI nc, fail, sp, ret, nI us, nI ob, fu, res, tm, kY, nk, rcv, bod, ann, par, mc, ml, mb, rt, rn, cb, oe, org, co, cr, gn, ge, gd, gs) (nI a) → wpY_extendType (fun r' v' => r' = A ∧ i_Rel (k + 5) XA v') (nI NC, nI TC, nI tc, nI nc, fail, sp, ret, nI us, nI ob, fu, res, tm, kY, nk, rcv, bod, ann, par, mc, ml, mb, rt, rn, cb, oe, org, co, cr, gn, ge, gd, gs) (nI a) (nI b) (nI c) := fun A XA w => by
        unfold wpY_extendType
        refine oc_yT1 ha (by omega) (br_f na (oc_la1 hb (oc_yT1 hc (by omega) ⟨oc_v16 (by omega) hb, ?_⟩)))
        rw [oc_k16 (by omega) hb]
        exact br_t z w
      refine oc_xfind h2 h4 ha hb (hT.2 a ha).1 tc 0 (by omega) (fun j j1 j2 j3 j4 => ?_) (fun w => ⟨fun y => ?_, fun y => ?_⟩)
      · refine Yw _ _ (oc_ylc (by omega) (pk_lt (oc_lc tm a) 8 (fun _ => ⟨tc, ?_⟩) (fun q' => by omega)))
        have hj0 : j ≠ 0 := fun y => n0 (y ▸ j3)
        have key := oc_yfind (fail := fail) (sp := sp) (ret := ret) (us := us) (ob := ob) (fu := fu) (res := res) (NC := NC) (nc := nc) (kY := kY) (nk := nk) (rcv := rcv) (bod := bod) (ann := ann) (par := par) (mc := mc) (ml := ml) (mb := mb) (rt := rt) (rn := rn) (cb := cb) (oe := oe) (org := org) (co := co) (cr := cr) (gn := gn) (ge := ge) (gd := gd) (gs := gs) (post := fun r' v' => r' = nI j ∧ i_Rel (k + 5) (nI NC, nI TC, nI tc, nI nc, fail, res, fl, nI us, nI ob, fc, val, tm, mk, kd, par, num, ann, rcv, bod, mc, ml, mb, cd, cb, ce, org, co, cr, fn, fe, fp) v') (m := c) h2 h4 ha hb (tc - 1) 1 (by omega) (fun j' x1 x2 x3 x4 => ⟨?_, J⟩) (fun w => absurd j3 (w j (by omega) j2))
        · rw [show tc - 1 + 1 = tc by omega] at key
          exact key
        · have : j' = j := by
            rcases Nat.lt_trichotomy j' j with y | y | y
            · exact absurd x3 (j4 j' (by omega) y)
            · exact y
            · exact absurd j3 (x4 j (by omega) y)
          rw [this]
      · refine Yw _ _ (oc_ylc (by omega) (pk_lt (oc_lc tm a) 8 (fun _ => ⟨tc, ?_⟩) (fun q' => by omega)))
        have key := oc_yfind (fail := fail) (sp := sp) (ret := ret) (us := us) (ob := ob) (fu := fu) (res := res) (NC := NC) (nc := nc) (kY := kY) (nk := nk) (rcv := rcv) (bod := bod) (ann := ann) (par := par) (mc := mc) (ml := ml) (mb := mb) (rt := rt) (rn := rn) (cb := cb) (oe := oe) (org := org) (co := co) (cr := cr) (gn := gn) (ge := ge) (gd := gd) (gs := gs) (post := fun r' v' => r' = nI tc ∧ i_Rel (k + 5) (nI NC, nI TC, nI (tc + 1), nI nc, fail, res, fl, nI us, nI ob, fc, val, upd (oc_tc tm a tc 16) (tc * 16 + b) (nI c), upd mk tc (nI (oc_lc tm a + 1)), kd, par, num, ann, rcv, bod, mc, ml, mb, cd, cb, ce, org, co, cr, fn, fe, fp) v') (m := c) h2 h4 ha hb (tc - 1) 1 (by omega) (fun j' x1 x2 x3 x4 => absurd x3 (w j' (by omega) x2)) (fun _ => ⟨fun _ => ⟨rfl, ?_⟩, fun y' => absurd y y'⟩)
        · rw [show tc - 1 + 1 = tc by omega] at key
          exact key
        · exact oc_mk ⟨h1, h2, by omega, by omega, h5, h6, h7, oc_Nd_tc hN (by omega), oc_Ty_new hT h3 ha hb hc (by omega) z, hm, hK, hr⟩
      · refine Yw _ _ (oc_ylc (by omega) (pk_lt (oc_lc tm a) 8 (fun _ => ⟨tc, ?_⟩) (fun q' => by omega)))
        have key := oc_yfind (fail := fail) (sp := sp) (ret := ret) (us := us) (ob := ob) (fu := fu) (res := res) (NC := NC) (nc := nc) (kY := kY) (nk := nk) (rcv := rcv) (bod := bod) (ann := ann) (par := par) (mc := mc) (ml := ml) (mb := mb) (rt := rt) (rn := rn) (cb := cb) (oe := oe) (org := org) (co := co) (cr := cr) (gn := gn) (ge := ge) (gd := gd) (gs := gs) (post := fun r' v' => r' = -1 ∧ i_Rel (k + 5) (nI NC, nI TC, nI tc, nI nc, fail, res, fl, nI us, nI ob, fc, val, tm, mk, kd, par, num, ann, rcv, bod, mc, ml, mb, cd, cb, ce, org, co, cr, fn, fe, fp) v') (m := c) h2 h4 ha hb (tc - 1) 1 (by omega) (fun j' x1 x2 x3 x4 => absurd x3 (w j' (by omega) x2)) (fun _ => ⟨fun y' => absurd y' y, fun _ => ⟨rfl, J⟩⟩)
        rw [show tc - 1 + 1 = tc by omega] at key
        exact key
    · unfold wpY_extendType
      refine oc_yT1 ha (by omega) (br_f na (oc_la1 hb (oc_yT1 hc (by omega) ⟨oc_v16 (by omega) hb, ?_⟩)))
      rw [oc_k16 (by omega) hb]
      exact br_t z (oc_ylc (by omega) (pk_lt (oc_lc tm a) 8 (fun q' => by omega) (fun _ => ⟨rfl, J⟩)))
  · refine br_f z ?_
    unfold wpY_extendType
    refine oc_yT1 ha (by omega) (br_f na (oc_la1 hb (oc_yT1 hc (by omega) ⟨oc_v16 (by omega) hb, ?_⟩)))
    rw [oc_k16 (by omega) hb]
    exact br_f z ⟨rfl, J⟩
end
section
/-! the node table -/
theorem oc_xnode {NC TC tc nc us ob : Nat} {fail res fl fc val : Int32} {tm mk kd par num ann rcv bod mc ml mb cd cb ce org co cr fn fe fp : Nat → Int32} {post : Int32 → SX → Prop} {p0 p1 p2 : Int32} (hn : nc < 32)
    (h : post (nI nc) (nI NC, nI TC, nI tc, nI (nc + 1), fail, res, fl, nI us, nI ob, fc, val, tm, mk, upd kd nc p0, upd par nc (-1), upd num nc p1, upd ann nc p2, upd rcv nc (-1), upd bod nc (-1), mc, ml, mb, cd, cb, ce, org, co, cr, fn, fe, fp)) : wpX_newNode post (nI NC, nI TC, nI tc, nI nc, fail, res, fl, nI us, nI ob, fc, val, tm, mk, kd, par, num, ann, rcv, bod, mc, ml, mb, cd, cb, ce, org, co, cr, fn, fe, fp) p0 p1 p2 := by
  have hi : vp_in (nI nc) 32 := vp_in_nI hn (by omega)
  refine ⟨hi, nm_e ⟨hi, nm_e ⟨hi, nm_e ⟨hi, nm_e ⟨hi, nm_e ⟨hi, nm_e (nm_e ?_)⟩⟩⟩⟩⟩⟩
  rw [nI_clamp (n := nc) (by omega), nI_1]
  exact h
theorem oc_ynode {NC TC tc nc us ob : Nat} {fail sp ret fu res : Int32} {tm kY nk rcv bod ann par mc ml mb rt rn cb oe org co cr gn ge gd gs : Nat → Int32} {post : Int32 → SY → Prop} {p0 p1 p2 p3 p4 : Int32} (hn : nc < 32) (hm : mc nc = 0)
    (h : post (nI nc) (nI NC, nI TC, nI tc, nI (nc + 1), fail, sp, ret, nI us, nI ob, fu, res, tm, upd kY nc p0, upd nk nc p1, upd rcv nc p2, upd bod nc p3, upd ann nc p4, upd par nc (-1), mc, ml, mb, rt, rn, cb, oe, org, co, cr, gn, ge, gd, gs)) : wpY_newNode post (nI NC, nI TC, nI tc, nI nc, fail, sp, ret, nI us, nI ob, fu, res, tm, kY, nk, rcv, bod, ann, par, mc, ml, mb, rt, rn, cb, oe, org, co, cr, gn, ge, gd, gs) p0 p1 p2 p3 p4 := by
  have hi : vp_in (nI nc) 32 := vp_in_nI hn (by omega)
  refine ⟨hi, nm_e ⟨hi, nm_e ⟨hi, nm_e ⟨hi, nm_e ⟨hi, nm_e ⟨hi, nm_e ⟨hi, nm_e (nm_e ?_)⟩⟩⟩⟩⟩⟩⟩
  rw [nI_clamp (n := nc) (by omega), nI_1, oc_ui mc nc hm]
  exact h
theorem oc_newK {nc : Nat} {kd num kY nk : Nat → Int32} {p0 p1 q0 q1 : Int32} (hK : ∀ n, n < nc → kY n = kd n + 1 ∧ (¬ kd n = 1 → nk n = num n)) (e0 : q0 = p0 + 1) (e1 : ¬ p0 = 1 → q1 = p1) :
    ∀ n, n < nc + 1 → upd kY nc q0 n = upd kd nc p0 n + 1 ∧ (¬ upd kd nc p0 n = 1 → upd nk nc q1 n = upd num nc p1 n) := fun n hn => by
  by_cases z : n = nc
  · rw [z, pk_us, pk_us, pk_us, pk_us]; exact ⟨e0, e1⟩
  · rw [pk_un z, pk_un z, pk_un z, pk_un z]; exact hK n (by omega)
theorem i_vc_variable {k : Nat} {u : SX} {v : SY} (I : i_Rel k u v) (hk : k + 5 ≤ 2562) (v1 : Int32) : wpX_variable (fun r u' => wpY_variable (fun r' v' => r' = r ∧ i_Rel (k + 5) u' v') v v1) u v1 := by
  have J : i_Rel (k + 5) u v := I
  obtain ⟨NC, TC, tc, nc, us, ob, fail, res, fl, fc, val, sp, ret, fu, tm, mk, kd, par, num, ann, rcv, bod, mc, ml, mb, cd, cb, ce, org, co, cr, fn, fe, fp, kY, nk, rt, rn, oe, gn, ge, gd, gs, rfl, rfl, h1, h2, h3, h4, h5, h6, h7, hN, hT, hm, hK, hr⟩ := I
  rcases oc_ix v1 (n := 16) (by omega) with b | ⟨b, hb, rfl⟩
  · exact oc_la0 b (oc_la0 b ⟨rfl, J⟩)
  refine oc_la1 hb (pk_lt nc NC (fun q => ?_) (fun q => ?_))
  · refine oc_xnode (by omega) (oc_la1 hb (pk_lt nc NC (fun _ => ?_) (fun q' => by omega)))
    refine oc_ynode (by omega) (hm nc (Nat.le_refl _)) ⟨rfl, oc_mk ⟨h1, h2, h3, h4, by omega, h6, h7, ?_, hT, fun n hn => hm n (by omega), oc_newK hK (by decide) (fun _ => rfl), hr⟩⟩
    refine oc_Nd_new (by omega) hN (fun n hn => ?_) (fun n hn => Or.inl (pk_un (by omega))) ?_
    · rw [pk_un (by omega), pk_un (by omega), pk_un (by omega), pk_un (by omega), pk_un (by omega)]
      exact ⟨rfl, rfl, rfl, rfl, rfl⟩
    · exact ⟨Or.inl pk_us, Or.inl ⟨pk_us, pk_us, b, hb, pk_us⟩⟩
  · exact oc_la1 hb (pk_lt nc NC (fun q' => by omega) (fun _ => ⟨rfl, J⟩))
theorem i_vc_object {k : Nat} {u : SX} {v : SY} (I : i_Rel k u v) (hk : k + 5 ≤ 2562) (v1 : Int32) : wpX_object (fun r u' => wpY_object (fun r' v' => r' = r ∧ i_Rel (k + 5) u' v') v v1) u v1 := by
  have J : i_Rel (k + 5) u v := I
  obtain ⟨NC, TC, tc, nc, us, ob, fail, res, fl, fc, val, sp, ret, fu, tm, mk, kd, par, num, ann, rcv, bod, mc, ml, mb, cd, cb, ce, org, co, cr, fn, fe, fp, kY, nk, rt, rn, oe, gn, ge, gd, gs, rfl, rfl, h1, h2, h3, h4, h5, h6, h7, hN, hT, hm, hK, hr⟩ := I
  unfold wpX_object
  rcases oc_ix v1 (n := tc) (by omega) with b | ⟨b, hb, rfl⟩
  · refine oc_xT0 b ?_
    unfold wpY_object
    exact oc_yT0 b ⟨rfl, J⟩
  refine oc_xT1 hb (by omega) (pk_lt nc NC (fun q => ?_) (fun q => ?_))
  · refine oc_xnode (by omega) ?_
    unfold wpY_object
    refine oc_yT1 hb (by omega) (pk_lt nc NC (fun _ => ?_) (fun q' => by omega))
    refine oc_ynode (by omega) (hm nc (Nat.le_refl _)) ⟨rfl, oc_mk ⟨h1, h2, h3, h4, by omega, h6, h7, ?_, hT, fun n hn => hm n (by omega), oc_newK hK (by decide) (fun q' => absurd rfl q'), hr⟩⟩
    refine oc_Nd_new (by omega) hN (fun n hn => ?_) (fun n hn => Or.inl (pk_un (by omega))) ?_
    · rw [pk_un (by omega), pk_un (by omega), pk_un (by omega), pk_un (by omega), pk_un (by omega)]
      exact ⟨rfl, rfl, rfl, rfl, rfl⟩
    · exact ⟨Or.inl pk_us, Or.inr (Or.inl ⟨pk_us, pk_us, ⟨b, hb, pk_us⟩, 0, by omega, hm nc (Nat.le_refl _), fun i hi => absurd hi (Nat.not_lt_zero _), fun i j hi => absurd hi (Nat.not_lt_zero _)⟩)⟩
  · unfold wpY_object
    exact oc_yT1 hb (by omega) (pk_lt nc NC (fun q' => by omega) (fun _ => ⟨rfl, J⟩))
theorem oc_xLo1 {NC TC tc nc us ob : Nat} {fail res fl fc val : Int32} {tm mk kd par num ann rcv bod mc ml mb cd cb ce org co cr fn fe fp : Nat → Int32} {A B : Prop} {j : Nat} (hj : j < nc) (ht : nc ≤ 32) (hp : par j = -1) (hB : B) : wpX_isLoose (fun r => (r = 0 → A) ∧ (¬ r = 0 → B)) (nI NC, nI TC, nI tc, nI nc, fail, res, fl, nI us, nI ob, fc, val, tm, mk, kd, par, num, ann, rcv, bod, mc, ml, mb, cd, cb, ce, org, co, cr, fn, fe, fp) (nI j) := by
  unfold wpX_isLoose
  refine oc_xN1 hj ht ⟨vp_in_nI (by omega) (by omega), ?_⟩
  rw [nI_clamp (n := j) (by omega)]
  exact br_t hp (br_f oc_10 hB)
theorem oc_xLo0 {NC TC tc nc us ob : Nat} {fail res fl fc val : Int32} {tm mk kd par num ann rcv bod mc ml mb cd cb ce org co cr fn fe fp : Nat → Int32} {A B : Prop} {t : Int32} (ht : nc ≤ 32) (h : (t < 0 ∨ nI nc ≤ t) ∨ ∃ j, j < nc ∧ t = nI j ∧ ¬ par j = -1) (hA : A) : wpX_isLoose (fun r => (r = 0 → A) ∧ (¬ r = 0 → B)) (nI NC, nI TC, nI tc, nI nc, fail, res, fl, nI us, nI ob, fc, val, tm, mk, kd, par, num, ann, rcv, bod, mc, ml, mb, cd, cb, ce, org, co, cr, fn, fe, fp) t := by
  unfold wpX_isLoose
  rcases h with h | ⟨j, hj, rfl, hp⟩
  · exact oc_xN0 h (br_t rfl hA)
  · refine oc_xN1 hj ht ⟨vp_in_nI (by omega) (by omega), ?_⟩
    rw [nI_clamp (n := j) (by omega)]
    exact br_f hp (br_t rfl hA)
theorem oc_ne {nc p : Nat} {par : Nat → Int32} (hn : nc ≤ 32) (hp : p < 32) {n : Nat} (e : par n = nI p) : ¬ par n = -1 := fun q => by
  rw [e] at q; exact oc_m1 (by omega) q
theorem i_vc_select {k : Nat} {u : SX} {v : SY} (I : i_Rel k u v) (hk : k + 5 ≤ 2562) (v1 : Int32) (v2 : Int32) : wpX_select (fun r u' => wpY_select (fun r' v' => r' = r ∧ i_Rel (k + 5) u' v') v v1 v2) u v1 v2 := by
  have J : i_Rel (k + 5) u v := I
  obtain ⟨NC, TC, tc, nc, us, ob, fail, res, fl, fc, val, sp, ret, fu, tm, mk, kd, par, num, ann, rcv, bod, mc, ml, mb, cd, cb, ce, org, co, cr, fn, fe, fp, kY, nk, rt, rn, oe, gn, ge, gd, gs, rfl, rfl, h1, h2, h3, h4, h5, h6, h7, hN, hT, hm, hK, hr⟩ := I
  unfold wpX_select
  rcases oc_ix v1 (n := nc) (by omega) with a | ⟨a, ha, rfl⟩
  · refine oc_xLo0 (by omega) (Or.inl a) ?_
    unfold wpY_select
    exact oc_yN0 a ⟨rfl, J⟩
  have va : vp_in (nI a) 32 := vp_in_nI (by omega) (by omega)
  have ca : (nI a).toNatClampNeg = a := nI_clamp (by omega)
  by_cases hp : par a = -1
  · refine oc_xLo1 ha (by omega) hp ?_
    rcases oc_ix v2 (n := 16) (by omega) with b | ⟨b, hb, rfl⟩
    · refine oc_xL0 b ?_
      unfold wpY_select
      refine oc_yN1 ha (by omega) ⟨va, ?_⟩
      rw [ca]
      exact br_t hp (oc_la0 b ⟨rfl, J⟩)
    · refine oc_xL1 hb (pk_lt nc NC (fun q => ?_) (fun q => ?_))
      · refine oc_xnode (by omega) ⟨vp_in_nI (by omega) (by omega), nm_e ⟨va, nm_e ?_⟩⟩
        rw [ca, nI_clamp (n := nc) (by omega), oc_uu]
        unfold wpY_select
        refine oc_yN1 ha (by omega) ⟨va, ?_⟩
        rw [ca]
        refine br_t hp (oc_la1 hb (pk_lt nc NC (fun _ => ?_) (fun q' => by omega)))
        refine oc_ynode (by omega) (hm nc (Nat.le_refl _)) ⟨va, nm_e ?_⟩
        try rw [ca]
        refine ⟨rfl, oc_mk ⟨h1, h2, h3, h4, by omega, h6, h7, ?_, hT, fun n hn => hm n (by omega), oc_newK hK (by decide) (fun _ => rfl), hr⟩⟩
        refine oc_Nd_new (by omega) hN (fun n hn => ?_) (fun n hn => ?_) ?_
        · rw [pk_un (by omega), pk_un (by omega), pk_un (by omega), pk_un (by omega), pk_un (by omega)]
          exact ⟨rfl, rfl, rfl, rfl, rfl⟩
        · by_cases y : n = a
          · rw [y, pk_us]; exact Or.inr ⟨hp, rfl⟩
          · rw [pk_un y, pk_un (by omega)]; exact Or.inl rfl
        · refine ⟨Or.inl ?_, Or.inr (Or.inr (Or.inl ⟨pk_us, pk_us, ⟨b, hb, pk_us⟩, a, ha, pk_us, pk_us⟩))⟩
          rw [pk_un (by omega), pk_us]
      · unfold wpY_select
        refine oc_yN1 ha (by omega) ⟨va, ?_⟩
        rw [ca]
        exact br_t hp (oc_la1 hb (pk_lt nc NC (fun q' => by omega) (fun _ => ⟨rfl, J⟩)))
  · refine oc_xLo0 (by omega) (Or.inr ⟨a, ha, rfl, hp⟩) ?_
    unfold wpY_select
    refine oc_yN1 ha (by omega) ⟨va, ?_⟩
    rw [ca]
    exact br_f hp ⟨rfl, J⟩
theorem i_vc_update {k : Nat} {u : SX} {v : SY} (I : i_Rel k u v) (hk : k + 5 ≤ 2562) (v1 : Int32) (v2 : Int32) (v3 : Int32) (v4 : Int32) : wpX_update (fun r u' => wpY_update (fun r' v' => r' = r ∧ i_Rel (k + 5) u' v') v v1 v2 v3 v4) u v1 v2 v3 v4 := by
  have J : i_Rel (k + 5) u v := I
  obtain ⟨NC, TC, tc, nc, us, ob, fail, res, fl, fc, val, sp, ret, fu, tm, mk, kd, par, num, ann, rcv, bod, mc, ml, mb, cd, cb, ce, org, co, cr, fn, fe, fp, kY, nk, rt, rn, oe, gn, ge, gd, gs, rfl, rfl, h1, h2, h3, h4, h5, h6, h7, hN, hT, hm, hK, hr⟩ := I
  unfold wpX_update
  rcases oc_ix v1 (n := nc) (by omega) with a | ⟨a, ha, rfl⟩
  · refine oc_xLo0 (by omega) (Or.inl a) ?_
    unfold wpY_update
    exact oc_yN0 a ⟨rfl, J⟩
  have va : vp_in (nI a) 32 := vp_in_nI (by omega) (by omega)
  have ca : (nI a).toNatClampNeg = a := nI_clamp (by omega)
  rcases oc_ix v4 (n := nc) (by omega) with d | ⟨d, hd, rfl⟩
  · have Yd : ∀ A XA, (-1 : Int32) = A ∧ i_Rel (k + 5) XA (nI NC, nI TC, nI tc, nI nc, fail, sp, ret, nI us, nI ob, fu, res, tm, kY, nk, rcv, bod, ann, par, mc, ml, mb, rt, rn, cb, oe, org, co, cr, gn, ge, gd, gs) → wpY_update (fun r' v' => r' = A ∧ i_Rel (k + 5) XA v') (nI NC, nI TC, nI tc, nI nc, fail, sp, ret, nI us, nI ob, fu, res, tm, kY, nk, rcv, bod, ann, par, mc, ml, mb, rt, rn, cb, oe, org, co, cr, gn, ge, gd, gs) (nI a) v2 v3 v4 := fun A XA w => by
      unfold wpY_update
      exact oc_yN1 ha (by omega) (oc_yN0 d w)
    by_cases hp : par a = -1
    · exact oc_xLo1 ha (by omega) hp (oc_xLo0 (by omega) (Or.inl d) (Yd _ _ ⟨rfl, J⟩))
    · exact oc_xLo0 (by omega) (Or.inr ⟨a, ha, rfl, hp⟩) (Yd _ _ ⟨rfl, J⟩)
  have vd : vp_in (nI d) 32 := vp_in_nI (by omega) (by omega)
  have cd' : (nI d).toNatClampNeg = d := nI_clamp (by omega)
  by_cases hp : par a = -1
  · by_cases hq : par d = -1
    · refine oc_xLo1 ha (by omega) hp (oc_xLo1 hd (by omega) hq (pk_eq a d (fun e => ?_) (fun e => ?_)))
      · unfold wpY_update
        exact oc_yN1 ha (by omega) (oc_yN1 hd (by omega) (pk_eq a d (fun _ => ⟨rfl, J⟩) (fun q => absurd e q)))
      have nad : ¬ nI a = nI d := fun q => e ((nI_eq (by omega) (by omega)).mp q)
      rcases oc_ix v2 (n := 16) (by omega) with b | ⟨b, hb, rfl⟩
      · refine oc_xL0 b ?_
        unfold wpY_update
        refine oc_yN1 ha (by omega) (oc_yN1 hd (by omega) (br_f nad ⟨va, ?_⟩))
        rw [ca]
        refine br_t hp ⟨vd, ?_⟩
        rw [cd']
        refine br_t hq ?_
        exact oc_la0 b ⟨rfl, J⟩
      refine oc_xL1 hb ?_
      rcases oc_ix v3 (n := tc) (by omega) with t | ⟨t, ht, rfl⟩
      · refine oc_xT0 t ?_
        unfold wpY_update
        refine oc_yN1 ha (by omega) (oc_yN1 hd (by omega) (br_f nad ⟨va, ?_⟩))
        rw [ca]
        refine br_t hp ⟨vd, ?_⟩
        rw [cd']
        refine br_t hq ?_
        exact oc_la1 hb (oc_yT0 t ⟨rfl, J⟩)
      refine oc_xT1 ht (by omega) (pk_lt nc NC (fun q => ?_) (fun q => ?_))
      · refine oc_xnode (by omega) ⟨vp_in_nI (by omega) (by omega), nm_e ⟨vp_in_nI (by omega) (by omega), nm_e ⟨va, nm_e ⟨vd, nm_e ?_⟩⟩⟩⟩
        rw [ca, cd', nI_clamp (n := nc) (by omega), oc_uu, oc_uu]
        unfold wpY_update
        refine oc_yN1 ha (by omega) (oc_yN1 hd (by omega) (br_f nad ⟨va, ?_⟩))
        rw [ca]
        refine br_t hp ⟨vd, ?_⟩
        rw [cd']
        refine br_t hq ?_
        refine oc_la1 hb (oc_yT1 ht (by omega) (pk_lt nc NC (fun _ => ?_) (fun q' => by omega)))
        refine oc_ynode (by omega) (hm nc (Nat.le_refl _)) ⟨va, nm_e ⟨vd, nm_e ?_⟩⟩
        try rw [ca]
        try rw [cd']
        refine ⟨rfl, oc_mk ⟨h1, h2, h3, h4, by omega, h6, h7, ?_, hT, fun n hn => hm n (by omega), oc_newK hK (by decide) (fun _ => rfl), hr⟩⟩
        refine oc_Nd_new (by omega) hN (fun n hn => ?_) (fun n hn => ?_) ?_
        · rw [pk_un (by omega), pk_un (by omega), pk_un (by omega), pk_un (by omega), pk_un (by omega)]
          exact ⟨rfl, rfl, rfl, rfl, rfl⟩
        · by_cases y : n = d
          · rw [y, pk_us]; exact Or.inr ⟨hq, rfl⟩
          · rw [pk_un y]
            by_cases y' : n = a
            · rw [y', pk_us]; exact Or.inr ⟨hp, rfl⟩
            · rw [pk_un y', pk_un (by omega)]; exact Or.inl rfl
        · refine ⟨Or.inl ?_, Or.inr (Or.inr (Or.inr ⟨pk_us, ⟨b, hb, pk_us⟩, ⟨t, ht, pk_us⟩, a, d, ha, hd, e, pk_us, pk_us, ?_, pk_us⟩))⟩
          · rw [pk_un (by omega), pk_un (by omega), pk_us]
          · rw [pk_un e, pk_us]
      · unfold wpY_update
        refine oc_yN1 ha (by omega) (oc_yN1 hd (by omega) (br_f nad ⟨va, ?_⟩))
        rw [ca]
        refine br_t hp ⟨vd, ?_⟩
        rw [cd']
        refine br_t hq ?_
        exact oc_la1 hb (oc_yT1 ht (by omega) (pk_lt nc NC (fun q' => by omega) (fun _ => ⟨rfl, J⟩)))
    · have Yd : ∀ A XA, (-1 : Int32) = A ∧ i_Rel (k + 5) XA (nI NC, nI TC, nI tc, nI nc, fail, sp, ret, nI us, nI ob, fu, res, tm, kY, nk, rcv, bod, ann, par, mc, ml, mb, rt, rn, cb, oe, org, co, cr, gn, ge, gd, gs) → wpY_update (fun r' v' => r' = A ∧ i_Rel (k + 5) XA v') (nI NC, nI TC, nI tc, nI nc, fail, sp, ret, nI us, nI ob, fu, res, tm, kY, nk, rcv, bod, ann, par, mc, ml, mb, rt, rn, cb, oe, org, co, cr, gn, ge, gd, gs) (nI a) v2 v3 (nI d) := fun A XA w => by
        unfold wpY_update
        refine oc_yN1 ha (by omega) (oc_yN1 hd (by omega) (br_c (fun _ => w) (fun _ => ⟨va, ?_⟩)))
        rw [ca]
        refine br_t hp ⟨vd, ?_⟩
        rw [cd']
        exact br_f hq w
      exact oc_xLo1 ha (by omega) hp (oc_xLo0 (by omega) (Or.inr ⟨d, hd, rfl, hq⟩) (Yd _ _ ⟨rfl, J⟩))
  · have Yd : ∀ A XA, (-1 : Int32) = A ∧ i_Rel (k + 5) XA (nI NC, nI TC, nI tc, nI nc, fail, sp, ret, nI us, nI ob, fu, res, tm, kY, nk, rcv, bod, ann, par, mc, ml, mb, rt, rn, cb, oe, org, co, cr, gn, ge, gd, gs) → wpY_update (fun r' v' => r' = A ∧ i_Rel (k + 5) XA v') (nI NC, nI TC, nI tc, nI nc, fail, sp, ret, nI us, nI ob, fu, res, tm, kY, nk, rcv, bod, ann, par, mc, ml, mb, rt, rn, cb, oe, org, co, cr, gn, ge, gd, gs) (nI a) v2 v3 (nI d) := fun A XA w => by
      unfold wpY_update
      refine oc_yN1 ha (by omega) (oc_yN1 hd (by omega) (br_c (fun _ => w) (fun _ => ⟨va, ?_⟩)))
      rw [ca]
      exact br_f hp w
    exact oc_xLo0 (by omega) (Or.inr ⟨a, ha, rfl, hp⟩) (Yd _ _ ⟨rfl, J⟩)
theorem oc_xhas {NC TC tc nc us ob : Nat} {fail res fl fc val : Int32} {tm mk kd par num ann rcv bod mc ml mb cd cb ce org co cr fn fe fp : Nat → Int32} {post : Int32 → Prop} {o m l : Nat} (ho : o < 32) (hm : mc o = nI m) (hm8 : m ≤ 8) (h1 : (∃ i, i < m ∧ ml (o * 8 + i) = nI l) → post 1) (h0 : (¬ ∃ i, i < m ∧ ml (o * 8 + i) = nI l) → post 0) : wpX_hasMethod post (nI NC, nI TC, nI tc, nI nc, fail, res, fl, nI us, nI ob, fc, val, tm, mk, kd, par, num, ann, rcv, bod, mc, ml, mb, cd, cb, ce, org, co, cr, fn, fe, fp) (nI o) (nI l) := by
  have key : ∀ d i, i + d = m → (∀ i', i' < i → ¬ ml (o * 8 + i') = nI l) → wX_hasMethod_2 post (nI o) (nI l) (nI NC) (nI TC) (nI tc) (nI nc) fail res fl (nI us) (nI ob) fc val tm mk kd par num ann rcv bod mc ml mb cd cb ce org co cr fn fe fp (d + 1) (nI i) := by
    intro d
    induction d with
    | zero =>
      intro i hi hn
      refine ⟨vp_in_nI ho (by omega), ?_⟩
      rw [nI_clamp (n := o) (by omega), hm]
      exact br_t (nI_le (by omega) (by omega)) (h0 fun ⟨i', a, b⟩ => hn i' (by omega) b)
    | succ d ih =>
      intro i hi hn
      refine ⟨vp_in_nI ho (by omega), ?_⟩
      rw [nI_clamp (n := o) (by omega), hm]
      refine br_f (nI_ge (by omega) (by omega)) ⟨oc_v8 ho (by omega), ?_⟩
      rw [oc_k8 ho (by omega)]
      by_cases z : ml (o * 8 + i) = nI l
      · exact br_t z (h1 ⟨i, by omega, z⟩)
      · refine br_f z (nm_r (nI_1 i) (ih (i + 1) (by omega) fun i' a => ?_))
        by_cases y : i' = i
        · rw [y]; exact z
        · exact hn i' (by omega)
  exact ⟨m + 1, key m 0 (by omega) fun i' a => absurd a (Nat.not_lt_zero _)⟩
theorem oc_yhas {NC TC tc nc us ob : Nat} {fail sp ret fu res : Int32} {tm kY nk rcv bod ann par mc ml mb rt rn cb oe org co cr gn ge gd gs : Nat → Int32} {post : Int32 → Prop} {o m l : Nat} (ho : o < 32) (hm : mc o = nI m) (hm8 : m ≤ 8) (h1 : (∃ i, i < m ∧ ml (o * 8 + i) = nI l) → post 1) (h0 : (¬ ∃ i, i < m ∧ ml (o * 8 + i) = nI l) → post 0) : wpY_hasMethod post (nI NC, nI TC, nI tc, nI nc, fail, sp, ret, nI us, nI ob, fu, res, tm, kY, nk, rcv, bod, ann, par, mc, ml, mb, rt, rn, cb, oe, org, co, cr, gn, ge, gd, gs) (nI o) (nI l) := by
  have key : ∀ d i, i + d = 8 → (∀ i', i' < i → i' < m → ¬ ml (o * 8 + i') = nI l) → wY_hasMethod_2 post (nI o) (nI l) (nI NC) (nI TC) (nI tc) (nI nc) fail sp ret (nI us) (nI ob) fu res tm kY nk rcv bod ann par mc ml mb rt rn cb oe org co cr gn ge gd gs (d + 1) (nI i) := by
    intro d
    induction d with
    | zero =>
      intro i hi hn
      exact br_t (nI_le (a := 8) (by omega) (by omega)) (h0 fun ⟨i', a, b⟩ => hn i' (by omega) a b)
    | succ d ih =>
      intro i hi hn
      refine br_f (nI_ge (b := 8) (by omega) (by omega)) ⟨vp_in_nI ho (by omega), ?_⟩
      rw [nI_clamp (n := o) (by omega), hm]
      refine pk_le m i (fun q => nm_r (nI_1 i) (ih (i + 1) (by omega) fun i' a b => hn i' (by omega) b)) (fun q => ⟨oc_v8 ho (by omega), ?_⟩)
      rw [oc_k8 ho (by omega)]
      by_cases z : ml (o * 8 + i) = nI l
      · exact br_t z (h1 ⟨i, by omega, z⟩)
      · refine br_f z (nm_r (nI_1 i) (ih (i + 1) (by omega) fun i' a b => ?_))
        by_cases y : i' = i
        · rw [y]; exact z
        · exact hn i' (by omega) b
  exact ⟨9, key 8 0 (by omega) fun i' a => absurd a (Nat.not_lt_zero _)⟩
theorem oc_kd {nc tc : Nat} {kd par num ann rcv bod mc ml mb : Nat → Int32} (N : oc_Nd nc tc kd par num ann rcv bod mc ml mb) {n : Nat} (hn : n < nc) : kd n = 0 ∨ kd n = 1 ∨ kd n = 2 ∨ kd n = 3 := by
  obtain ⟨-, ⟨k, -⟩ | ⟨k, -⟩ | ⟨k, -⟩ | ⟨k, -⟩⟩ := N n hn
  · exact Or.inl k
  · exact Or.inr (Or.inl k)
  · exact Or.inr (Or.inr (Or.inl k))
  · exact Or.inr (Or.inr (Or.inr k))
/-- Y's kind is 2 just where X's is 1, and so on -/
theorem oc_ky {nc tc : Nat} {kd par num ann rcv bod mc ml mb kY nk : Nat → Int32} (N : oc_Nd nc tc kd par num ann rcv bod mc ml mb) (hK : ∀ n, n < nc → kY n = kd n + 1 ∧ (¬ kd n = 1 → nk n = num n)) {n : Nat} (hn : n < nc) :
    (kd n = 0 ∧ kY n = 1) ∨ (kd n = 1 ∧ kY n = 2) ∨ (kd n = 2 ∧ kY n = 3) ∨ (kd n = 3 ∧ kY n = 4) := by
  have e := (hK n hn).1
  rcases oc_kd N hn with h | h | h | h
  · exact Or.inl ⟨h, by rw [e, h]; decide⟩
  · exact Or.inr (Or.inl ⟨h, by rw [e, h]; decide⟩)
  · exact Or.inr (Or.inr (Or.inl ⟨h, by rw [e, h]; decide⟩))
  · exact Or.inr (Or.inr (Or.inr ⟨h, by rw [e, h]; decide⟩))
theorem oc_ky1 {nc tc : Nat} {kd par num ann rcv bod mc ml mb kY nk : Nat → Int32} (N : oc_Nd nc tc kd par num ann rcv bod mc ml mb) (hK : ∀ n, n < nc → kY n = kd n + 1 ∧ (¬ kd n = 1 → nk n = num n)) {n : Nat} (hn : n < nc) (h : ¬ kd n = 1) : ¬ kY n = 2 := fun q => by
  rcases oc_ky N hK hn with ⟨a, b⟩ | ⟨a, b⟩ | ⟨a, b⟩ | ⟨a, b⟩
  · rw [b] at q; exact absurd q (by decide)
  · exact h a
  · rw [b] at q; exact absurd q (by decide)
  · rw [b] at q; exact absurd q (by decide)
theorem i_vc_addMethod {k : Nat} {u : SX} {v : SY} (I : i_Rel k u v) (hk : k + 5 ≤ 2562) (v1 : Int32) (v2 : Int32) (v3 : Int32) : wpX_addMethod (fun r u' => wpY_addMethod (fun r' v' => r' = r ∧ i_Rel (k + 5) u' v') v v1 v2 v3) u v1 v2 v3 := by
  have J : i_Rel (k + 5) u v := I
  obtain ⟨NC, TC, tc, nc, us, ob, fail, res, fl, fc, val, sp, ret, fu, tm, mk, kd, par, num, ann, rcv, bod, mc, ml, mb, cd, cb, ce, org, co, cr, fn, fe, fp, kY, nk, rt, rn, oe, gn, ge, gd, gs, rfl, rfl, h1, h2, h3, h4, h5, h6, h7, hN, hT, hm, hK, hr⟩ := I
  unfold wpX_addMethod
  rcases oc_ix v1 (n := nc) (by omega) with a | ⟨a, ha, rfl⟩
  · refine oc_xN0 a ?_
    unfold wpY_addMethod
    exact oc_yN0 a ⟨rfl, J⟩
  have va : vp_in (nI a) 32 := vp_in_nI (by omega) (by omega)
  have ca : (nI a).toNatClampNeg = a := nI_clamp (by omega)
  refine oc_xN1 ha (by omega) ⟨va, ?_⟩
  rw [ca]
  by_cases hk1 : kd a = 1
  · have hk2 : kY a = 2 := by rw [(hK a ha).1, hk1]; decide
    refine br_t hk1 ?_
    rcases oc_ix v2 (n := 16) (by omega) with b | ⟨b, hb, rfl⟩
    · refine oc_xL0 b ?_
      unfold wpY_addMethod
      refine oc_yN1 ha (by omega) ⟨va, ?_⟩
      rw [ca]
      exact br_t hk2 (oc_lb0 b ⟨rfl, J⟩)
    refine oc_xL1 hb ?_
    rcases oc_ix v3 (n := nc) (by omega) with d | ⟨d, hd, rfl⟩
    · refine oc_xLo0 (by omega) (Or.inl d) ?_
      unfold wpY_addMethod
      refine oc_yN1 ha (by omega) ⟨va, ?_⟩
      rw [ca]
      exact br_t hk2 (oc_lb1 hb (oc_yN0 d ⟨rfl, J⟩))
    have vd : vp_in (nI d) 32 := vp_in_nI (by omega) (by omega)
    have cd' : (nI d).toNatClampNeg = d := nI_clamp (by omega)
    by_cases hp : par d = -1
    · refine oc_xLo1 hd (by omega) hp (pk_lt d a (fun e => ?_) (fun e => ?_))
      · obtain ⟨-, ⟨k1, -⟩ | ⟨k1, k2, k3, m, w4, w5, w6, w7⟩ | ⟨k1, -⟩ | ⟨k1, -⟩⟩ := hN a ha
        · rw [hk1] at k1; exact absurd k1 (by decide)
        · refine oc_xhas (by omega) w5 w4 (fun q => br_f oc_10 ?_) (fun q => br_t rfl ⟨va, ?_⟩)
          · unfold wpY_addMethod
            refine oc_yN1 ha (by omega) ⟨va, ?_⟩
            rw [ca]
            refine br_t hk2 (oc_lb1 hb (oc_yN1 hd (by omega) (br_f (nI_ge e (by omega)) ⟨vd, ?_⟩)))
            rw [cd']
            exact br_t hp (oc_yhas (by omega) w5 w4 (fun _ => br_f oc_10 ⟨rfl, J⟩) (fun q' => absurd q q'))
          · rw [w5]
            refine pk_lt m 8 (fun m8 => ⟨va, nm_e ⟨?_, nm_e ⟨?_, nm_e ⟨va, va, nm_e ⟨vd, nm_e ?_⟩⟩⟩⟩⟩) (fun m8 => ?_)
            · exact oc_v8 (by omega) m8
            · exact oc_v8 (by omega) m8
            · rw [oc_k8 (by omega) m8, cd', nI_1]
              unfold wpY_addMethod
              refine oc_yN1 ha (by omega) ⟨va, ?_⟩
              rw [ca]
              refine br_t hk2 (oc_lb1 hb (oc_yN1 hd (by omega) (br_f (nI_ge e (by omega)) ⟨vd, ?_⟩)))
              rw [cd']
              refine br_t hp (oc_yhas (by omega) w5 w4 (fun q' => absurd q' q) (fun _ => br_t rfl ⟨va, ?_⟩))
              rw [w5]
              refine pk_lt m 8 (fun _ => ⟨va, nm_e ⟨?_, nm_e ⟨?_, nm_e ⟨va, va, nm_e ⟨vd, nm_e ?_⟩⟩⟩⟩⟩) (fun m8' => by omega)
              · exact oc_v8 (by omega) m8
              · exact oc_v8 (by omega) m8
              · rw [oc_k8 (by omega) m8, nI_1]
                refine ⟨rfl, oc_mk ⟨h1, h2, h3, h4, h5, h6, h7, oc_Nd_add (by omega) hN ha hk1 e hp w5 m8 hb, hT, fun n hn => ?_, hK, hr⟩⟩
                rw [pk_un (by omega)]
                exact hm n hn
            · unfold wpY_addMethod
              refine oc_yN1 ha (by omega) ⟨va, ?_⟩
              rw [ca]
              refine br_t hk2 (oc_lb1 hb (oc_yN1 hd (by omega) (br_f (nI_ge e (by omega)) ⟨vd, ?_⟩)))
              rw [cd']
              refine br_t hp (oc_yhas (by omega) w5 w4 (fun q' => absurd q' q) (fun _ => br_t rfl ⟨va, ?_⟩))
              rw [w5]
              exact pk_lt m 8 (fun m8' => by omega) (fun _ => ⟨rfl, J⟩)
        · rw [hk1] at k1; exact absurd k1 (by decide)
        · rw [hk1] at k1; exact absurd k1 (by decide)
      · unfold wpY_addMethod
        refine oc_yN1 ha (by omega) ⟨va, ?_⟩
        rw [ca]
        exact br_t hk2 (oc_lb1 hb (oc_yN1 hd (by omega) (br_t (nI_le e (by omega)) ⟨rfl, J⟩)))
    · refine oc_xLo0 (by omega) (Or.inr ⟨d, hd, rfl, hp⟩) ?_
      unfold wpY_addMethod
      refine oc_yN1 ha (by omega) ⟨va, ?_⟩
      rw [ca]
      refine br_t hk2 (oc_lb1 hb (oc_yN1 hd (by omega) (br_c (fun _ => ⟨rfl, J⟩) (fun _ => ⟨vd, ?_⟩))))
      rw [cd']
      exact br_f hp ⟨rfl, J⟩
  · refine br_f hk1 ?_
    unfold wpY_addMethod
    refine oc_yN1 ha (by omega) ⟨va, ?_⟩
    rw [ca]
    exact br_f (oc_ky1 hN hK ha hk1) ⟨rfl, J⟩
theorem i_vc_nodeParent {k : Nat} {u : SX} {v : SY} (I : i_Rel k u v) (hk : k + 5 ≤ 2562) (v1 : Int32) : wpX_nodeParent (fun r => wpY_nodeParent (fun r' => r' = r ∧ i_Rel (k + 5) u v) v v1) u v1 := by
  have J : i_Rel (k + 5) u v := I
  obtain ⟨NC, TC, tc, nc, us, ob, fail, res, fl, fc, val, sp, ret, fu, tm, mk, kd, par, num, ann, rcv, bod, mc, ml, mb, cd, cb, ce, org, co, cr, fn, fe, fp, kY, nk, rt, rn, oe, gn, ge, gd, gs, rfl, rfl, h1, h2, h3, h4, h5, h6, h7, hN, hT, hm, hK, hr⟩ := I
  unfold wpX_nodeParent
  rcases oc_ix v1 (n := nc) (by omega) with a | ⟨a, ha, rfl⟩
  · refine oc_xN0 a ?_
    unfold wpY_nodeParent
    exact oc_yN0 a ⟨rfl, J⟩
  · refine oc_xN1 ha (by omega) ⟨vp_in_nI (by omega) (by omega), ?_⟩
    unfold wpY_nodeParent
    exact oc_yN1 ha (by omega) ⟨vp_in_nI (by omega) (by omega), rfl, J⟩
theorem i_vc_errorNode {k : Nat} {u : SX} {v : SY} (I : i_Rel k u v) (hk : k + 5 ≤ 2562) : wpX_errorNode (fun r => wpY_errorNode (fun r' => r' = r ∧ i_Rel (k + 5) u v) v) u := by
  have J : i_Rel (k + 5) u v := I
  obtain ⟨NC, TC, tc, nc, us, ob, fail, res, fl, fc, val, sp, ret, fu, tm, mk, kd, par, num, ann, rcv, bod, mc, ml, mb, cd, cb, ce, org, co, cr, fn, fe, fp, kY, nk, rt, rn, oe, gn, ge, gd, gs, rfl, rfl, hh⟩ := I
  exact ⟨rfl, J⟩
theorem i_vc_fuelUsed {k : Nat} {u : SX} {v : SY} (I : i_Rel k u v) (hk : k + 5 ≤ 2562) : wpX_fuelUsed (fun r => wpY_fuelUsed (fun r' => r' = r ∧ i_Rel (k + 5) u v) v) u := by
  have J : i_Rel (k + 5) u v := I
  obtain ⟨NC, TC, tc, nc, us, ob, fail, res, fl, fc, val, sp, ret, fu, tm, mk, kd, par, num, ann, rcv, bod, mc, ml, mb, cd, cb, ce, org, co, cr, fn, fe, fp, kY, nk, rt, rn, oe, gn, ge, gd, gs, rfl, rfl, hh⟩ := I
  exact ⟨rfl, J⟩
theorem i_vc_objectsCreated {k : Nat} {u : SX} {v : SY} (I : i_Rel k u v) (hk : k + 5 ≤ 2562) : wpX_objectsCreated (fun r => wpY_objectsCreated (fun r' => r' = r ∧ i_Rel (k + 5) u v) v) u := by
  have J : i_Rel (k + 5) u v := I
  obtain ⟨NC, TC, tc, nc, us, ob, fail, res, fl, fc, val, sp, ret, fu, tm, mk, kd, par, num, ann, rcv, bod, mc, ml, mb, cd, cb, ce, org, co, cr, fn, fe, fp, kY, nk, rt, rn, oe, gn, ge, gd, gs, rfl, rfl, hh⟩ := I
  exact ⟨rfl, J⟩
theorem i_vc_resultType {k : Nat} {u : SX} {v : SY} (I : i_Rel k u v) (hk : k + 5 ≤ 2562) : wpX_resultType (fun r => wpY_resultType (fun r' => r' = r ∧ i_Rel (k + 5) u v) v) u := by
  have J : i_Rel (k + 5) u v := I
  obtain ⟨NC, TC, tc, nc, us, ob, fail, res, fl, fc, val, sp, ret, fu, tm, mk, kd, par, num, ann, rcv, bod, mc, ml, mb, cd, cb, ce, org, co, cr, fn, fe, fp, kY, nk, rt, rn, oe, gn, ge, gd, gs, rfl, rfl, h1, h2, h3, h4, h5, h6, h7, hN, hT, hm, hK, hr⟩ := I
  rcases hr with rfl | ⟨o, ho, rfl⟩
  · exact br_t rfl (br_f (by decide) ⟨rfl, J⟩)
  · have vo : vp_in (nI o) 32 := vp_in_nI (by omega) (by omega)
    exact br_f (oc_m1 (by omega)) ⟨vo, br_t (nI_pos' (by omega)) ⟨vo, rfl, J⟩⟩
theorem i_vc_resultBody {k : Nat} {u : SX} {v : SY} (I : i_Rel k u v) (hk : k + 5 ≤ 2562) (v1 : Int32) : wpX_resultBody (fun r => wpY_resultBody (fun r' => r' = r ∧ i_Rel (k + 5) u v) v v1) u v1 := by
  have J : i_Rel (k + 5) u v := I
  obtain ⟨NC, TC, tc, nc, us, ob, fail, res, fl, fc, val, sp, ret, fu, tm, mk, kd, par, num, ann, rcv, bod, mc, ml, mb, cd, cb, ce, org, co, cr, fn, fe, fp, kY, nk, rt, rn, oe, gn, ge, gd, gs, rfl, rfl, h1, h2, h3, h4, h5, h6, h7, hN, hT, hm, hK, hr⟩ := I
  rcases hr with rfl | ⟨o, ho, rfl⟩
  · exact br_t rfl (br_t (by decide) ⟨rfl, J⟩)
  · refine br_f (oc_m1 (by omega)) ?_
    rcases oc_ix v1 (n := 16) (by omega) with b | ⟨b, hb, rfl⟩
    · exact oc_xL0 b (br_f (nI_pos (by omega)) (oc_lb0 b ⟨rfl, J⟩))
    · have vo := oc_v16 (a := o) (b := b) (by omega) hb
      exact oc_xL1 hb ⟨vo, br_f (nI_pos (by omega)) (oc_lb1 hb ⟨vo, rfl, J⟩)⟩
end
section
/-! construction -/
def oc_in : Nat → Nat → Int32
  | 0 => fun _ => 0
  | i + 1 => upd (oc_in i) i (-1)
theorem oc_in_lt : ∀ i j, j < i → oc_in i j = -1
  | 0, _, h => absurd h (Nat.not_lt_zero _)
  | i + 1, j, h => by
    rw [oc_in]
    by_cases e : j = i
    · rw [e, pk_us]
    · rw [pk_un e]; exact oc_in_lt i j (by omega)
theorem oc_cl8 (p : Int32) : ∃ c : Nat, 8 ≤ c ∧ c ≤ 32 ∧ ∀ F : Int32 → Prop, F (nI c) → (8 ≤ p → ((p ≤ 32 → F p) ∧ (¬ p ≤ 32 → F 32))) ∧ (¬ 8 ≤ p → F 8) := by
  by_cases a : 8 ≤ p
  · by_cases b : p ≤ 32
    · have n0 : ¬ p < 0 := fun q => by
        rw [Int32.lt_iff_toInt_lt] at q
        rw [Int32.le_iff_toInt_le] at a
        have e8 : (8 : Int32).toInt = 8 := by decide
        have e0 : (0 : Int32).toInt = 0 := by decide
        omega
      obtain ⟨c, hc, rfl⟩ := nI_of2 (M := 32) (n := 32) (by decide) n0 b
      have h8 : 8 ≤ c := by
        have := (nI_leI (a := 8) (b := c) (by omega) (by omega)).mp a
        omega
      exact ⟨c, h8, hc, fun F h => br_t a (br_t b h)⟩
    · exact ⟨32, by omega, by omega, fun F h => br_t a (br_f b h)⟩
  · exact ⟨8, by omega, by omega, fun F h => br_f a h⟩
theorem i_vc0 (k0 : Int32) (k1 : Int32) : wpX_init (fun u => wpY_init (fun v => i_Rel 2 u v) k0 k1) k0 k1 := by
  obtain ⟨c, c1, c2, hc⟩ := oc_cl8 k0
  obtain ⟨d, d1, d2, hd⟩ := oc_cl8 k1
  have fin : i_Rel 2 (nI c, nI d, 2, 0, -1, -1, 0, 0, 0, 0, -1, oc_in 512, fun _ => 0, fun _ => 0, fun _ => 0, fun _ => 0, fun _ => 0, fun _ => 0, fun _ => 0, fun _ => 0, fun _ => 0, fun _ => 0, fun _ => 0, fun _ => 0, fun _ => 0, fun _ => 0, fun _ => 0, fun _ => 0, fun _ => 0, fun _ => 0, fun _ => 0) (nI c, nI d, 2, 0, -1, 0, 0, 0, 0, 0, -1, oc_in 512, fun _ => 0, fun _ => 0, fun _ => 0, fun _ => 0, fun _ => 0, fun _ => 0, fun _ => 0, fun _ => 0, fun _ => 0, fun _ => 0, fun _ => 0, fun _ => 0, fun _ => 0, fun _ => 0, fun _ => 0, fun _ => 0, fun _ => 0, fun _ => 0, fun _ => 0, fun _ => 0) := by
    refine oc_mk (NC := c) (TC := d) (tc := 2) (nc := 0) (us := 0) (ob := 0) ⟨c2, d2, by omega, by omega, by omega, by omega, by omega, fun n hn => absurd hn (Nat.not_lt_zero _), ⟨fun l hl => oc_in_lt _ _ (by omega), fun t ht => ⟨?_, fun l hl => Or.inl (oc_in_lt _ _ (by omega))⟩⟩, fun _ _ => rfl, fun n hn => absurd hn (Nat.not_lt_zero _), Or.inl rfl⟩
    have : oc_lc (oc_in 512) t = 0 := oc_sm_z 16 fun i hi => if_pos (oc_in_lt _ _ (by omega))
    rw [this, nI_0]
  have hY : wpY_init (fun v => i_Rel 2 (nI c, nI d, 2, 0, -1, -1, 0, 0, 0, 0, -1, oc_in 512, fun _ => 0, fun _ => 0, fun _ => 0, fun _ => 0, fun _ => 0, fun _ => 0, fun _ => 0, fun _ => 0, fun _ => 0, fun _ => 0, fun _ => 0, fun _ => 0, fun _ => 0, fun _ => 0, fun _ => 0, fun _ => 0, fun _ => 0, fun _ => 0, fun _ => 0) v) k0 k1 := by
    have key : ∀ n i, i + n = 512 → wY_init_235 (fun v => i_Rel 2 (nI c, nI d, 2, 0, -1, -1, 0, 0, 0, 0, -1, oc_in 512, fun _ => 0, fun _ => 0, fun _ => 0, fun _ => 0, fun _ => 0, fun _ => 0, fun _ => 0, fun _ => 0, fun _ => 0, fun _ => 0, fun _ => 0, fun _ => 0, fun _ => 0, fun _ => 0, fun _ => 0, fun _ => 0, fun _ => 0, fun _ => 0, fun _ => 0) v) (nI c) (nI d) 0 0 0 0 0 0 0 0 0 (n + 1) (nI i) (oc_in i) (fun _ => 0) (fun _ => 0) (fun _ => 0) (fun _ => 0) (fun _ => 0) (fun _ => 0) (fun _ => 0) (fun _ => 0) (fun _ => 0) (fun _ => 0) (fun _ => 0) (fun _ => 0) (fun _ => 0) (fun _ => 0) (fun _ => 0) (fun _ => 0) (fun _ => 0) (fun _ => 0) (fun _ => 0) (fun _ => 0) := by
      intro n
      induction n with
      | zero =>
        intro i hi
        rw [show i = 512 by omega]
        exact br_t (nI_le (a := 512) (by omega) (by omega)) fin
      | succ n ih =>
        intro i hi
        refine br_f (nI_ge (b := 512) (by omega) (by omega)) ⟨vp_in_nI (by omega) (by omega), nm_e (nm_r (nI_1 i) ?_)⟩
        rw [nI_clamp (n := i) (by omega)]
        exact ih (i + 1) (by omega)
    exact hc (fun z => wY_init_203 (fun v => i_Rel 2 (nI c, nI d, 2, 0, -1, -1, 0, 0, 0, 0, -1, oc_in 512, fun _ => 0, fun _ => 0, fun _ => 0, fun _ => 0, fun _ => 0, fun _ => 0, fun _ => 0, fun _ => 0, fun _ => 0, fun _ => 0, fun _ => 0, fun _ => 0, fun _ => 0, fun _ => 0, fun _ => 0, fun _ => 0, fun _ => 0, fun _ => 0, fun _ => 0) v) k1 z 0 0 0 0 0 0 0 0 0 0 0 (fun _ => 0) (fun _ => 0) (fun _ => 0) (fun _ => 0) (fun _ => 0) (fun _ => 0) (fun _ => 0) (fun _ => 0) (fun _ => 0) (fun _ => 0) (fun _ => 0) (fun _ => 0) (fun _ => 0) (fun _ => 0) (fun _ => 0) (fun _ => 0) (fun _ => 0) (fun _ => 0) (fun _ => 0) (fun _ => 0) (fun _ => 0))
      (hd (fun z => ∃ n235 : Nat, wY_init_235 (fun v => i_Rel 2 (nI c, nI d, 2, 0, -1, -1, 0, 0, 0, 0, -1, oc_in 512, fun _ => 0, fun _ => 0, fun _ => 0, fun _ => 0, fun _ => 0, fun _ => 0, fun _ => 0, fun _ => 0, fun _ => 0, fun _ => 0, fun _ => 0, fun _ => 0, fun _ => 0, fun _ => 0, fun _ => 0, fun _ => 0, fun _ => 0, fun _ => 0, fun _ => 0) v) (nI c) z 0 0 0 0 0 0 0 0 0 n235 0 (fun _ => 0) (fun _ => 0) (fun _ => 0) (fun _ => 0) (fun _ => 0) (fun _ => 0) (fun _ => 0) (fun _ => 0) (fun _ => 0) (fun _ => 0) (fun _ => 0) (fun _ => 0) (fun _ => 0) (fun _ => 0) (fun _ => 0) (fun _ => 0) (fun _ => 0) (fun _ => 0) (fun _ => 0) (fun _ => 0) (fun _ => 0)) ⟨513, key 512 0 rfl⟩)
  have key : ∀ n i, i + n = 512 → wX_init_242 (fun u => wpY_init (fun v => i_Rel 2 u v) k0 k1) (nI c) (nI d) 2 0 (-1) (-1) 0 0 0 0 (-1) (n + 1) (nI i) (oc_in i) (fun _ => 0) (fun _ => 0) (fun _ => 0) (fun _ => 0) (fun _ => 0) (fun _ => 0) (fun _ => 0) (fun _ => 0) (fun _ => 0) (fun _ => 0) (fun _ => 0) (fun _ => 0) (fun _ => 0) (fun _ => 0) (fun _ => 0) (fun _ => 0) (fun _ => 0) (fun _ => 0) (fun _ => 0) := by
    intro n
    induction n with
    | zero =>
      intro i hi
      rw [show i = 512 by omega]
      exact br_t (nI_le (a := 512) (by omega) (by omega)) hY
    | succ n ih =>
      intro i hi
      refine br_f (nI_ge (b := 512) (by omega) (by omega)) ⟨vp_in_nI (by omega) (by omega), nm_e (nm_r (nI_1 i) ?_)⟩
      rw [nI_clamp (n := i) (by omega)]
      exact ih (i + 1) (by omega)
  have hcX : ∀ post : Int32 → Prop, post (nI c) → wpX_clamp post k0 8 32 := fun post h => hc post h
  have hdX : ∀ post : Int32 → Prop, post (nI d) → wpX_clamp post k1 8 32 := fun post h => hd post h
  unfold wpX_init
  refine hcX _ ?_
  refine hdX _ ?_
  exact ⟨513, key 512 0 rfl⟩
/-! climbing, as both sides do it -/
theorem oc_xbi {NC TC tc nc us ob : Nat} {fail res fl fc val : Int32} {tm mk kd par num ann rcv bod mc ml mb cd cb ce org co cr fn fe fp : Nat → Int32} {post : Int32 → Prop} {p n : Nat} (hp : p < 32) (h1 : kd p = 1 ∨ bod p = nI n → post 1) (h0 : ¬ (kd p = 1 ∨ bod p = nI n) → post 0) : wpX_bindsIn post (nI NC, nI TC, nI tc, nI nc, fail, res, fl, nI us, nI ob, fc, val, tm, mk, kd, par, num, ann, rcv, bod, mc, ml, mb, cd, cb, ce, org, co, cr, fn, fe, fp) (nI p) (nI n) := by
  have vp : vp_in (nI p) 32 := vp_in_nI hp (by omega)
  have e : (nI p).toNatClampNeg = p := nI_clamp (by omega)
  unfold wpX_bindsIn
  refine ⟨vp, ?_⟩
  rw [e]
  refine br_c (fun a => h1 (Or.inl a)) (fun a => ⟨vp, br_c (fun b => h1 (Or.inr b)) (fun b => h0 fun q => q.elim a b)⟩)
theorem oc_xbl {NC TC tc nc us ob : Nat} {fail res fl fc val : Int32} {tm mk kd par num ann rcv bod mc ml mb cd cb ce org co cr fn fe fp : Nat → Int32} {post : Int32 → Prop} {r : Nat} (hc : nc ≤ 32) (hr : r < nc) (hP : oc_Pa par nc) : ∀ f n k i, n < nc → k < 16 → i ≤ n → nc - n < f →
    (∀ p : Nat, p < nc → oc_bo par kd bod r n k = (p : Int) → post (nI p)) → ((∀ p : Nat, ¬ oc_bo par kd bod r n k = (p : Int)) → post (-1)) →
    wX_binderOf_13 post (nI r) (nI NC) (nI TC) (nI tc) (nI nc) fail res fl (nI us) (nI ob) fc val tm mk kd par num ann rcv bod mc ml mb cd cb ce org co cr fn fe fp f (nI k) (nI n) (nI i) := by
  intro f
  induction f with
  | zero => intro n k i a1 a2 a3 a4; omega
  | succ f ih =>
    intro n k i a1 a2 a3 a4 hf hn
    refine br_f (nI_ge (b := 32) (by omega) (by omega)) (pk_eq n r (fun e => hn fun p q => ?_) (fun e => ⟨vp_in_nI (by omega) (by omega), ?_⟩))
    · rw [e, oc_bo_r] at q; omega
    rw [nI_clamp (n := n) (by omega)]
    rcases hP n a1 with h | ⟨p, x1, x2, x3⟩
    · refine nm_r h (br_t rfl (hn fun p q => ?_))
      rw [oc_bo_n h e] at q; omega
    · refine nm_r x3 (br_f (oc_m1 (by omega)) (oc_xbi (by omega) (fun b => br_f oc_10 ?_) (fun b => br_t rfl (nm_r (nI_1 i) ?_))))
      · cases k with
        | zero =>
          refine br_t rfl (hf p x2 (oc_bo_0 x3 x1 (by omega) e b))
        | succ k =>
          refine br_f (nI_ne0 (by omega) (by omega)) (nm_r (pk_m1 k) (nm_r (nI_1 i) ?_))
          refine ih p k (i + 1) x2 (by omega) (by omega) (by omega) (fun p' y1 y2 => hf p' y1 ?_) (fun q => hn fun p' y => q p' ?_)
          · rw [oc_bo_1 x3 x1 (by omega) e b]; exact y2
          · rw [oc_bo_1 x3 x1 (by omega) e b] at y; exact y
      · refine ih p k (i + 1) x2 a2 (by omega) (by omega) (fun p' y1 y2 => hf p' y1 ?_) (fun q => hn fun p' y => q p' ?_)
        · rw [oc_bo_2 x3 x1 (by omega) e b]; exact y2
        · rw [oc_bo_2 x3 x1 (by omega) e b] at y; exact y
theorem oc_xbo {NC TC tc nc us ob : Nat} {fail res fl fc val : Int32} {tm mk kd par num ann rcv bod mc ml mb cd cb ce org co cr fn fe fp : Nat → Int32} {post : Int32 → Prop} {r n k : Nat} (hc : nc ≤ 32) (hr : r < nc) (hP : oc_Pa par nc) (hn : n < nc) (hk : k < 16) (ek : num n = nI k)
    (h1 : ∀ p : Nat, p < nc → oc_bo par kd bod r n k = (p : Int) → post (nI p)) (h0 : (∀ p : Nat, ¬ oc_bo par kd bod r n k = (p : Int)) → post (-1)) : wpX_binderOf post (nI NC, nI TC, nI tc, nI nc, fail, res, fl, nI us, nI ob, fc, val, tm, mk, kd, par, num, ann, rcv, bod, mc, ml, mb, cd, cb, ce, org, co, cr, fn, fe, fp) (nI n) (nI r) := by
  unfold wpX_binderOf
  refine ⟨vp_in_nI (by omega) (by omega), nm_r ?_ ⟨nc - n + 1, oc_xbl hc hr hP _ n k 0 hn hk (Nat.zero_le _) (by omega) h1 h0⟩⟩
  rw [nI_clamp (n := n) (by omega), ek]
theorem oc_bod {nc tc : Nat} {kd par num ann rcv bod mc ml mb : Nat → Int32} (N : oc_Nd nc tc kd par num ann rcv bod mc ml mb) {p n : Nat} (hp : p < nc) (hn : n < 2 ^ 31) (h : bod p = nI n) : kd p = 3 := by
  obtain ⟨-, ⟨k1, k2, -⟩ | ⟨k1, k2, -⟩ | ⟨k1, k2, -⟩ | ⟨k1, -⟩⟩ := N p hp
  · rw [k2] at h; exact absurd h (oc_m1' hn)
  · rw [k2] at h; exact absurd h (oc_m1' hn)
  · rw [k2] at h; exact absurd h (oc_m1' hn)
  · exact k1
theorem oc_ybl {NC TC tc nc us ob : Nat} {fail sp ret fu res : Int32} {tm kY nk rcv bod ann par mc ml mb rt rn cb oe org co cr gn ge gd gs : Nat → Int32} {num kd : Nat → Int32} {post : Int32 → Prop} {r k : Nat} (hc : nc ≤ 32) (hr : r < nc) (hN : oc_Nd nc tc kd par num ann rcv bod mc ml mb) (hK : ∀ n, n < nc → kY n = kd n + 1 ∧ (¬ kd n = 1 → nk n = num n)) (hk : k < 16) : ∀ f n c i, n < nc → c ≤ k → i ≤ n → nc - n < f →
    (∀ p : Nat, p < nc → oc_bo par kd bod r n (k - c) = (p : Int) → post (ann p)) → (oc_bo par kd bod r n (k - c) = -1 → post (-1)) → (oc_bo par kd bod r n (k - c) = -2 → post (-2)) →
    wY_binderType_9 post (nI r) (nI k) (nI NC) (nI TC) (nI tc) (nI nc) fail sp ret (nI us) (nI ob) fu res tm kY nk rcv bod ann par mc ml mb rt rn cb oe org co cr gn ge gd gs f (nI n) (nI c) (nI i) := by
  intro f
  induction f with
  | zero => intro n c i a1 a2 a3 a4; omega
  | succ f ih =>
    intro n c i a1 a2 a3 a4 hf h1 h2
    refine br_f (nI_ge (b := 40) (by omega) (by omega)) (pk_eq n r (fun e => h1 ?_) (fun e => ⟨vp_in_nI (by omega) (by omega), ?_⟩))
    · rw [e, oc_bo_r]
    rw [nI_clamp (n := n) (by omega)]
    rcases oc_Nd_Pa hN n a1 with h | ⟨p, x1, x2, x3⟩
    · exact nm_r h (br_f (by decide) (h2 (oc_bo_n h e)))
    · have vp : vp_in (nI p) 32 := vp_in_nI (by omega) (by omega)
      have cp : (nI p).toNatClampNeg = p := nI_clamp (by omega)
      have yes : kd p = 1 ∨ bod p = nI n → wY_binderType_75 post (wY_binderType_9 post (nI r) (nI k) (nI NC) (nI TC) (nI tc) (nI nc) fail sp ret (nI us) (nI ob) fu res tm kY nk rcv bod ann par mc ml mb rt rn cb oe org co cr gn ge gd gs f) (nI r) (nI k) (nI c) (nI i) (nI p) (nI NC) (nI TC) (nI tc) (nI nc) fail sp ret (nI us) (nI ob) fu res tm kY nk rcv bod ann par mc ml mb rt rn cb oe org co cr gn ge gd gs := fun b => by
        refine pk_eq c k (fun q => ⟨vp, ?_⟩) (fun q => nm_r (nI_1 c) (nm_r (nI_1 i) ?_))
        · rw [cp]
          refine hf p x2 ?_
          rw [show k - c = 0 by omega]
          exact oc_bo_0 x3 x1 (by omega) e b
        · have e1 : oc_bo par kd bod r n (k - c) = oc_bo par kd bod r p (k - (c + 1)) := by
            rw [show k - c = (k - (c + 1)) + 1 by omega]
            exact oc_bo_1 x3 x1 (by omega) e b
          rw [e1] at hf h1 h2
          exact ih p (c + 1) (i + 1) x2 (by omega) (by omega) (by omega) hf h1 h2
      have no : ¬ (kd p = 1 ∨ bod p = nI n) → wY_binderType_9 post (nI r) (nI k) (nI NC) (nI TC) (nI tc) (nI nc) fail sp ret (nI us) (nI ob) fu res tm kY nk rcv bod ann par mc ml mb rt rn cb oe org co cr gn ge gd gs f (nI p) (nI c) (nI (i + 1)) := fun b => by
        have e1 : oc_bo par kd bod r n (k - c) = oc_bo par kd bod r p (k - c) := oc_bo_2 x3 x1 (by omega) e b
        rw [e1] at hf h1 h2
        exact ih p c (i + 1) x2 a2 (by omega) (by omega) hf h1 h2
      refine nm_r x3 (br_t (nI_pos' (by omega)) ⟨vp, ?_⟩)
      rw [cp]
      rcases oc_ky hN hK x2 with ⟨q1, q2⟩ | ⟨q1, q2⟩ | ⟨q1, q2⟩ | ⟨q1, q2⟩
      · refine br_f (by rw [q2]; decide) ⟨vp, br_f (by rw [q2]; decide) (nm_r (nI_1 i) (no fun w => ?_))⟩
        rcases w with w | w
        · rw [q1] at w; exact absurd w (by decide)
        · have := oc_bod hN x2 (by omega) w; rw [q1] at this; exact absurd this (by decide)
      · exact br_t q2 (yes (Or.inl q1))
      · refine br_f (by rw [q2]; decide) ⟨vp, br_f (by rw [q2]; decide) (nm_r (nI_1 i) (no fun w => ?_))⟩
        rcases w with w | w
        · rw [q1] at w; exact absurd w (by decide)
        · have := oc_bod hN x2 (by omega) w; rw [q1] at this; exact absurd this (by decide)
      · refine br_f (by rw [q2]; decide) ⟨vp, br_t q2 ⟨vp, br_c (fun w => yes (Or.inr w)) (fun w => nm_r (nI_1 i) (no fun w' => ?_))⟩⟩
        rcases w' with w' | w'
        · rw [q1] at w'; exact absurd w' (by decide)
        · exact w w'
theorem oc_ybo {NC TC tc nc us ob : Nat} {fail sp ret fu res : Int32} {tm kY nk rcv bod ann par mc ml mb rt rn cb oe org co cr gn ge gd gs : Nat → Int32} {num kd : Nat → Int32} {post : Int32 → Prop} {r n k : Nat} (hc : nc ≤ 32) (hr : r < nc) (hN : oc_Nd nc tc kd par num ann rcv bod mc ml mb) (hK : ∀ n, n < nc → kY n = kd n + 1 ∧ (¬ kd n = 1 → nk n = num n)) (hn : n < nc) (hk : k < 16)
    (h : ∀ p : Nat, p < nc → oc_bo par kd bod r n k = (p : Int) → post (ann p)) (h1 : oc_bo par kd bod r n k = -1 → post (-1)) (h2 : oc_bo par kd bod r n k = -2 → post (-2)) : wpY_binderType post (nI NC, nI TC, nI tc, nI nc, fail, sp, ret, nI us, nI ob, fu, res, tm, kY, nk, rcv, bod, ann, par, mc, ml, mb, rt, rn, cb, oe, org, co, cr, gn, ge, gd, gs) (nI n) (nI r) (nI k) :=
  ⟨nc - n + 1, oc_ybl hc hr hN hK hk _ n 0 0 hn (Nat.zero_le _) (Nat.zero_le _) (by omega) h h1 h2⟩
theorem oc_xli {NC TC tc nc us ob : Nat} {fail res fl fc val : Int32} {tm mk kd par num ann rcv bod mc ml mb cd cb ce org co cr fn fe fp : Nat → Int32} {post : Int32 → Prop} {r n : Nat} (hc : nc ≤ 32) (hr : r < nc) (hP : oc_Pa par nc) (hn : n < nc) (h1 : oc_li par r n = true → post 1) (h0 : oc_li par r n = false → post 0) : wpX_liesIn post (nI NC, nI TC, nI tc, nI nc, fail, res, fl, nI us, nI ob, fc, val, tm, mk, kd, par, num, ann, rcv, bod, mc, ml, mb, cd, cb, ce, org, co, cr, fn, fe, fp) (nI n) (nI r) := by
  have key : ∀ f n i, n < nc → i ≤ n → nc - n + 1 < f → (oc_li par r n = true → post 1) → (oc_li par r n = false → post 0) → wX_liesIn_5 post (nI r) (nI NC) (nI TC) (nI tc) (nI nc) fail res fl (nI us) (nI ob) fc val tm mk kd par num ann rcv bod mc ml mb cd cb ce org co cr fn fe fp f (nI n) (nI i) := by
    intro f
    induction f with
    | zero => intro n i a1 a2 a3; omega
    | succ f ih =>
      intro n i a1 a2 a3 h1 h0
      refine br_f (nI_ge (b := 32) (by omega) (by omega)) (br_f (oc_m1 (by omega)) (pk_eq n r (fun e => h1 ?_) (fun e => ⟨vp_in_nI (by omega) (by omega), ?_⟩)))
      · rw [e]; exact oc_li_r _ _
      rw [nI_clamp (n := n) (by omega)]
      rcases hP n a1 with h | ⟨p, x1, x2, x3⟩
      · refine nm_r h (nm_r (nI_1 i) ?_)
        have q := h0 (oc_li_n h e)
        obtain ⟨g, rfl⟩ : ∃ g, f = g + 1 := ⟨f - 1, by omega⟩
        exact br_c (fun _ => q) (fun _ => br_t rfl q)
      · rw [oc_li_s x3 x1 (by omega) e] at h1 h0
        exact nm_r x3 (nm_r (nI_1 i) (ih p (i + 1) x2 (by omega) (by omega) h1 h0))
  exact ⟨nc - n + 2, key _ n 0 hn (Nat.zero_le _) (by omega) h1 h0⟩
/-! terms without free variables -/
def oc_Cl (nc : Nat) (par kd num bod : Nat → Int32) (r : Nat) : Prop := ∀ n, n < nc → kd n = 0 → ¬ oc_bo par kd bod r n (num n).toNatClampNeg = -1
theorem oc_var {nc tc : Nat} {kd par num ann rcv bod mc ml mb : Nat → Int32} (N : oc_Nd nc tc kd par num ann rcv bod mc ml mb) {n : Nat} (hn : n < nc) (h : kd n = 0) : ∃ k, k < 16 ∧ num n = nI k := by
  obtain ⟨-, ⟨k1, k2, k3⟩ | ⟨k1, -⟩ | ⟨k1, -⟩ | ⟨k1, -⟩⟩ := N n hn
  · exact k3
  · rw [h] at k1; exact absurd k1 (by decide)
  · rw [h] at k1; exact absurd k1 (by decide)
  · rw [h] at k1; exact absurd k1 (by decide)
theorem oc_xcl {NC TC tc nc us ob : Nat} {fail res fl fc val : Int32} {tm mk kd par num ann rcv bod mc ml mb cd cb ce org co cr fn fe fp : Nat → Int32} {post : Int32 → Prop} {r : Nat} (hc : nc ≤ 32) (hr : r < nc) (hN : oc_Nd nc tc kd par num ann rcv bod mc ml mb) (h1 : oc_Cl nc par kd num bod r → post 1) (h0 : ¬ oc_Cl nc par kd num bod r → post 0) : wpX_isClosed post (nI NC, nI TC, nI tc, nI nc, fail, res, fl, nI us, nI ob, fc, val, tm, mk, kd, par, num, ann, rcv, bod, mc, ml, mb, cd, cb, ce, org, co, cr, fn, fe, fp) (nI r) := by
  have hP := oc_Nd_Pa hN
  have key : ∀ d i, i + d = nc → (∀ n, n < i → kd n = 0 → ¬ oc_bo par kd bod r n (num n).toNatClampNeg = -1) → wX_isClosed_2 post (nI r) (nI NC) (nI TC) (nI tc) (nI nc) fail res fl (nI us) (nI ob) fc val tm mk kd par num ann rcv bod mc ml mb cd cb ce org co cr fn fe fp (d + 1) (nI i) := by
    intro d
    induction d with
    | zero =>
      intro i hi hq
      exact br_t (nI_le (by omega) (by omega)) (h1 fun n hn => hq n (by omega))
    | succ d ih =>
      intro i hi hq
      have nx : (kd i = 0 → ¬ oc_bo par kd bod r i (num i).toNatClampNeg = -1) → wX_isClosed_2 post (nI r) (nI NC) (nI TC) (nI tc) (nI nc) fail res fl (nI us) (nI ob) fc val tm mk kd par num ann rcv bod mc ml mb cd cb ce org co cr fn fe fp (d + 1) (nI (i + 1)) := fun w => ih (i + 1) (by omega) fun n hn => by
        by_cases e : n = i
        · rw [e]; exact w
        · exact hq n (by omega)
      refine br_f (nI_ge (by omega) (by omega)) ⟨vp_in_nI (by omega) (by omega), ?_⟩
      rw [nI_clamp (n := i) (by omega)]
      refine br_c (fun z => ?_) (fun z => nm_r (nI_1 i) (nx fun z' => absurd z' z))
      obtain ⟨k, hk, ek⟩ := oc_var hN (show i < nc by omega) z
      have ck : (num i).toNatClampNeg = k := by rw [ek, nI_clamp (by omega)]
      refine oc_xli hc hr hP (by omega) (fun hl => br_f oc_10 (oc_xbo hc hr hP (by omega) hk ek (fun p hp e => br_f (oc_m1 (by omega)) (nm_r (nI_1 i) (nx fun _ q => ?_))) (fun q => br_t rfl (h0 fun w => ?_)))) (fun hl => br_t rfl (nm_r (nI_1 i) (nx fun _ q => ?_)))
      · rw [ck, e] at q; omega
      · have w1 := w i (by omega) z
        rw [ck] at w1
        rcases oc_bo_3 (kd := kd) (bod := bod) (r := r) hP hc i (by omega) k with y | y | ⟨p, m, y1, y2, y3, y4⟩
        · exact w1 y
        · exact oc_bo_m2 hP hc i (by omega) k hl y
        · exact q p y3
      · have := oc_bo_li hP hc i (by omega) _ q
        rw [hl] at this
        exact absurd this (by decide)
  exact ⟨nc + 1, key nc 0 (by omega) fun n hn => absurd hn (Nat.not_lt_zero _)⟩
theorem oc_ycl {NC TC tc nc us ob : Nat} {fail sp ret fu res : Int32} {tm kY nk rcv bod ann par mc ml mb rt rn cb oe org co cr gn ge gd gs : Nat → Int32} {num kd : Nat → Int32} {post : Int32 → Prop} {r : Nat} (htc : tc ≤ 32) (hc : nc ≤ 32) (hr : r < nc) (hN : oc_Nd nc tc kd par num ann rcv bod mc ml mb) (hK : ∀ n, n < nc → kY n = kd n + 1 ∧ (¬ kd n = 1 → nk n = num n)) (h1 : oc_Cl nc par kd num bod r → post 1) (h0 : ¬ oc_Cl nc par kd num bod r → post 0) : wpY_closed post (nI NC, nI TC, nI tc, nI nc, fail, sp, ret, nI us, nI ob, fu, res, tm, kY, nk, rcv, bod, ann, par, mc, ml, mb, rt, rn, cb, oe, org, co, cr, gn, ge, gd, gs) (nI r) := by
  have hP := oc_Nd_Pa hN
  have key : ∀ d i, i + d = r + 1 → (∀ n, n < i → kd n = 0 → ¬ oc_bo par kd bod r n (num n).toNatClampNeg = -1) → wY_closed_2 post (nI r) (nI NC) (nI TC) (nI tc) (nI nc) fail sp ret (nI us) (nI ob) fu res tm kY nk rcv bod ann par mc ml mb rt rn cb oe org co cr gn ge gd gs (d + 1) (nI i) := by
    intro d
    induction d with
    | zero =>
      intro i hi hq
      refine br_t (nI_lt (by omega) (by omega)) (h1 fun n hn z q => ?_)
      by_cases e : n < i
      · exact hq n e z q
      · have := oc_li_le hP hc n hn (oc_bo_li hP hc n hn _ q)
        omega
    | succ d ih =>
      intro i hi hq
      have nx : (kd i = 0 → ¬ oc_bo par kd bod r i (num i).toNatClampNeg = -1) → wY_closed_2 post (nI r) (nI NC) (nI TC) (nI tc) (nI nc) fail sp ret (nI us) (nI ob) fu res tm kY nk rcv bod ann par mc ml mb rt rn cb oe org co cr gn ge gd gs (d + 1) (nI (i + 1)) := fun w => ih (i + 1) (by omega) fun n hn => by
        by_cases e : n = i
        · rw [e]; exact w
        · exact hq n (by omega)
      have vi : vp_in (nI i) 32 := vp_in_nI (by omega) (by omega)
      refine br_f (nI_nlt (by omega) (by omega)) ⟨vi, ?_⟩
      rw [nI_clamp (n := i) (by omega)]
      rcases oc_ky hN hK (show i < nc by omega) with ⟨q1, q2⟩ | ⟨q1, q2⟩ | ⟨q1, q2⟩ | ⟨q1, q2⟩
      · obtain ⟨k, hk, ek⟩ := oc_var hN (show i < nc by omega) q1
        have ck : (num i).toNatClampNeg = k := by rw [ek, nI_clamp (by omega)]
        refine br_t q2 ⟨vi, ?_⟩
        rw [(hK i (by omega)).2 (by rw [q1]; decide), ek]
        refine oc_ybo hc hr hN hK (by omega) hk (fun p hp e => ?_) (fun e => br_t rfl (h0 fun w => w i (by omega) q1 (by rw [ck]; exact e))) (fun e => br_f (by decide) (nm_r (nI_1 i) (nx fun _ q => ?_)))
        · have na : ¬ ann p = -1 := by
            rcases oc_bo_3 (kd := kd) (bod := bod) (r := r) hP hc i (by omega) k with y | y | ⟨p', m, y1, y2, y3, y4⟩
            · rw [e] at y; omega
            · rw [e] at y; omega
            · have : p' = p := by rw [e] at y3; omega
              subst this
              obtain ⟨A, hA, eA⟩ := oc_ann hN y1 (by omega) y4
              rw [eA]
              exact oc_m1 (by omega)
          exact br_f na (nm_r (nI_1 i) (nx fun _ q => by rw [ck, e] at q; omega))
        · rw [ck, e] at q; omega
      · exact br_f (by rw [q2]; decide) (nm_r (nI_1 i) (nx fun z => by rw [q1] at z; exact absurd z (by decide)))
      · exact br_f (by rw [q2]; decide) (nm_r (nI_1 i) (nx fun z => by rw [q1] at z; exact absurd z (by decide)))
      · exact br_f (by rw [q2]; decide) (nm_r (nI_1 i) (nx fun z => by rw [q1] at z; exact absurd z (by decide)))
  exact ⟨r + 2, key (r + 1) 0 (by omega) fun n hn => absurd hn (Nat.not_lt_zero _)⟩
end
section
/-! the verdict of X at a node -/
theorem oc_ng {x : Int32} (h : x < 0) : ¬ 0 ≤ x := Int32.not_le.mpr h
theorem oc_nn {x : Int32} (h : ¬ x < 0) : 0 ≤ x := Int32.not_lt.mp h
theorem oc_i8p (n i : Nat) : nI n * 8 + nI (i + 1) - 1 = nI (n * 8 + i) := by
  rw [oc_i8, ← Nat.add_assoc, nI_pred]
theorem oc_xhl {NC TC tc nc us ob : Nat} {fail res fl fc val : Int32} {tm mk kd par num ann rcv bod mc ml mb cd cb ce org co cr fn fe fp : Nat → Int32} {post : Int32 → Prop} {n A m : Nat} (hn : n < 32) (hA : A < 32) (hm : mc n = nI m) (hm8 : m ≤ 8) (hl : ∀ i, i < m → ∃ l, l < 16 ∧ ml (n * 8 + i) = nI l) (hmk : mk A = nI (oc_lc tm A))
    (h1 : oc_LM tm mc ml n A → post 1) (h0 : ¬ oc_LM tm mc ml n A → post 0) : wpX_hasLabelsOf post (nI NC, nI TC, nI tc, nI nc, fail, res, fl, nI us, nI ob, fc, val, tm, mk, kd, par, num, ann, rcv, bod, mc, ml, mb, cd, cb, ce, org, co, cr, fn, fe, fp) (nI n) (nI A) := by
  have vn : vp_in (nI n) 32 := vp_in_nI hn (by omega)
  have cn : (nI n).toNatClampNeg = n := nI_clamp (by omega)
  have cm : (mc n).toNatClampNeg = m := by rw [hm, nI_clamp (by omega)]
  have key : mc n = nI (oc_lc tm A) → ∀ d i, i + d = m → (∀ i', i' < i → ¬ tm (A * 16 + (ml (n * 8 + i')).toNatClampNeg) = -1) → wX_hasLabelsOf_19 post (nI n) (nI A) (nI NC) (nI TC) (nI tc) (nI nc) fail res fl (nI us) (nI ob) fc val tm mk kd par num ann rcv bod mc ml mb cd cb ce org co cr fn fe fp (d + 1) (nI i) := by
    intro em d
    induction d with
    | zero =>
      intro i hi hq
      refine ⟨vn, ?_⟩
      rw [cn, hm]
      exact br_t (nI_le (by omega) (by omega)) (h1 ⟨em, fun i' hi' => hq i' (by rw [cm] at hi'; omega)⟩)
    | succ d ih =>
      intro i hi hq
      obtain ⟨l, l1, l2⟩ := hl i (by omega)
      refine ⟨vn, ?_⟩
      rw [cn, hm]
      refine br_f (nI_ge (by omega) (by omega)) ⟨oc_v8 hn (by omega), ?_⟩
      rw [oc_k8 hn (by omega), l2]
      refine nm_e ⟨oc_v16 hA l1, ?_⟩
      rw [oc_k16 hA l1]
      by_cases z : tm (A * 16 + l) = -1
      · refine br_t z (h0 fun w => w.2 i (by rw [cm]; omega) ?_)
        rw [l2, nI_clamp (by omega)]; exact z
      · refine br_f z (nm_r (nI_1 i) (ih (i + 1) (by omega) fun i' hi' => ?_))
        by_cases y : i' = i
        · rw [y, l2, nI_clamp (by omega)]; exact z
        · exact hq i' (by omega)
  unfold wpX_hasLabelsOf
  refine ⟨vn, vp_in_nI hA (by omega), ?_⟩
  rw [cn, nI_clamp (n := A) (by omega), hmk]
  by_cases e : mc n = nI (oc_lc tm A)
  · exact br_t e ⟨m + 1, key e m 0 (by omega) fun i' hi' => absurd hi' (Nat.not_lt_zero _)⟩
  · exact br_f e (h0 fun w => e w.1)
theorem oc_xvd {NC TC tc nc us ob : Nat} {fail res fl fc val : Int32} {tm mk kd par num ann rcv bod mc ml mb cd cb ce org co cr fn fe fp : Nat → Int32} {post : Int32 → Prop} {r n : Nat} {ct v : Int32} (hc : nc ≤ 32) (htc : tc ≤ 32) (hr : r < nc) (hn : n < nc) (N : oc_Nd nc tc kd par num ann rcv bod mc ml mb) (Y : oc_Ty tc tm mk)
    (V : oc_Vd tc tm kd par num ann bod mc ml r n ct cd v) (h : post v) : wpX_verdictAt post (nI NC, nI TC, nI tc, nI nc, fail, res, fl, nI us, nI ob, fc, val, tm, mk, kd, par, num, ann, rcv, bod, mc, ml, mb, cd, cb, ce, org, co, cr, fn, fe, fp) (nI n) ct (nI r) := by
  have vn : vp_in (nI n) 32 := vp_in_nI (by omega) (by omega)
  have cn : (nI n).toNatClampNeg = n := nI_clamp (by omega)
  unfold wpX_verdictAt
  refine ⟨vn, ?_⟩
  rw [cn]
  rcases V with ⟨k1, V⟩ | ⟨k1, V⟩ | ⟨k1, V⟩ | ⟨k1, V⟩
  · refine nm_r k1 (br_f (by decide) (br_f (by decide) (br_t rfl ?_)))
    obtain ⟨k, hk, ek⟩ := oc_var N hn k1
    unfold oc_V0 at V
    rw [ek, nI_clamp (by omega)] at V
    unfold wpX_variableVerdict
    refine oc_xbo hc hr (oc_Nd_Pa N) hn hk ek (fun p hp e => br_f (oc_m1 (by omega)) ⟨vp_in_nI (by omega) (by omega), ?_⟩) (fun e => br_t rfl ?_)
    · rw [nI_clamp (n := p) (by omega)]
      rcases V with ⟨p', e1, e2⟩ | ⟨e1, e2⟩
      · have : p' = p := by rw [e] at e1; omega
        rw [← this, ← e2]; exact h
      · exact absurd e (e1 p)
    · rcases V with ⟨p', e1, e2⟩ | ⟨e1, e2⟩
      · exact absurd e1 (e p')
      · rw [← e2]; exact h
  · refine nm_r k1 (br_f (by decide) (br_f (by decide) (br_f (by decide) (br_t rfl ?_))))
    obtain ⟨-, ⟨q1, -⟩ | ⟨q1, q2, ⟨A, hA, eA⟩, m, w4, w5, w6, w7⟩ | ⟨q1, -⟩ | ⟨q1, -⟩⟩ := N n hn
    · rw [k1] at q1; exact absurd q1 (by decide)
    · have cm : (mc n).toNatClampNeg = m := by rw [w5, nI_clamp (by omega)]
      have cA : (ann n).toNatClampNeg = A := by rw [eA, nI_clamp (by omega)]
      unfold oc_V1 oc_Ok at V
      rw [cm, cA] at V
      unfold wpX_objectVerdict
      refine ⟨vn, ?_⟩
      rw [cn]
      refine nm_e ⟨vn, nm_e ?_⟩
      rcases V with ⟨x1, x2⟩ | ⟨x1, V⟩
      · exact br_t x1 (by rw [← x2]; exact h)
      refine br_f x1 ?_
      rw [eA]
      refine oc_xhl (by omega) (by omega) w5 w4 (fun i hi => ?_) (Y.2 A hA).1 (fun L => br_f oc_10 ?_) (fun L => br_t rfl ?_)
      · obtain ⟨l, b, y1, y2, -⟩ := w6 i hi
        exact ⟨l, y1, y2⟩
      · rcases V with ⟨x2, -⟩ | ⟨-, V⟩
        · exact absurd L x2
        have mem : ∀ i, i < m → ∃ l m', l < 16 ∧ ml (n * 8 + i) = nI l ∧ m' < tc ∧ tm (A * 16 + l) = nI m' := fun i hi => by
          obtain ⟨l, b, y1, y2, -⟩ := w6 i hi
          have y3 := L.2 i (by rw [cm]; exact hi)
          rw [y2, nI_clamp (by omega)] at y3
          rcases (Y.2 A hA).2 l y1 with y | ⟨m', y4, y5⟩
          · exact absurd y y3
          · exact ⟨l, m', y1, y2, y4, y5⟩
        have last : ∀ i, cd n = nI i → i ≤ m → ((i < m ∧ v = -100) ∨ (i = m ∧ v = ann n)) → wX_objectVerdict_78 post (nI n) (nI A) (cd n) (nI NC) (nI TC) (nI tc) (nI nc) fail res fl (nI us) (nI ob) fc val tm mk kd par num ann rcv bod mc ml mb cd cb ce org co cr fn fe fp := fun i ed hi w => by
          unfold wX_objectVerdict_78
          refine ⟨vn, ?_⟩
          rw [cn, w5, ed]
          refine pk_le m i (fun q => ?_) (fun q => ?_)
          · rcases w with ⟨a, -⟩ | ⟨-, b⟩
            · omega
            · rw [← eA, ← b]; exact h
          · rcases w with ⟨-, b⟩ | ⟨a, -⟩
            · rw [← b]; exact h
            · omega
        have step : ∀ i k, cd n = nI (i + 1) → i < m → k < tc → ct = nI k → (oc_sub tm k (tm (A * 16 + (ml (n * 8 + i)).toNatClampNeg)).toNatClampNeg → wX_objectVerdict_78 post (nI n) (nI A) (cd n) (nI NC) (nI TC) (nI tc) (nI nc) fail res fl (nI us) (nI ob) fc val tm mk kd par num ann rcv bod mc ml mb cd cb ce org co cr fn fe fp) → (¬ oc_sub tm k (tm (A * 16 + (ml (n * 8 + i)).toNatClampNeg)).toNatClampNeg → post (-7)) →
            (cd n ≤ 0 → wX_objectVerdict_78 post (nI n) (nI A) (cd n) (nI NC) (nI TC) (nI tc) (nI nc) fail res fl (nI us) (nI ob) fc val tm mk kd par num ann rcv bod mc ml mb cd cb ce org co cr fn fe fp) ∧ (¬ cd n ≤ 0 → (vp_in (nI n * 8 + cd n - 1) 256 ∧ ∀ x5 : Int32, x5 = ml (nI n * 8 + cd n - 1).toNatClampNeg → (vp_in (nI A * 16 + x5) 512 ∧ wpX_fits (fun r_45 => (r_45 = 0 → post (-7)) ∧ (¬ r_45 = 0 → wX_objectVerdict_78 post (nI n) (nI A) (cd n) (nI NC) (nI TC) (nI tc) (nI nc) fail res fl (nI us) (nI ob) fc val tm mk kd par num ann rcv bod mc ml mb cd cb ce org co cr fn fe fp)) (nI NC, nI TC, nI tc, nI nc, fail, res, fl, nI us, nI ob, fc, val, tm, mk, kd, par, num, ann, rcv, bod, mc, ml, mb, cd, cb, ce, org, co, cr, fn, fe, fp) ct (tm (nI A * 16 + x5).toNatClampNeg)))) := fun i k ed hi hk ek g1 g0 => by
          obtain ⟨l, m', y1, y2, y3, y4⟩ := mem i hi
          refine br_f (by rw [ed]; exact nI_nle (by omega) (by omega)) ⟨?_, ?_⟩
          · rw [ed, oc_i8p]; exact vp_in_nI (by omega) (by omega)
          · rw [show nI n * 8 + cd n - 1 = nI (n * 8 + i) by rw [ed, oc_i8p], nI_clamp (n := n * 8 + i) (by omega), y2]
            rw [y2, nI_clamp (n := l) (by omega), y4, nI_clamp (n := m') (by omega)] at g1 g0
            refine nm_e ⟨oc_v16 (by omega) y1, ?_⟩
            rw [oc_k16 (by omega) y1, y4, ek]
            exact oc_xfits (by omega) (by omega) (fun q => br_f oc_10 (g1 q)) (fun q => br_t rfl (g0 q))
        rcases V with ⟨i, k, x2, x3, x4, x5, x6, x7⟩ | ⟨i, x2, x3, x4, x5⟩
        · exact step i k x2 x3 x4 x5 (fun q => absurd q x6) (fun _ => by rw [← x7]; exact h)
        · rcases x4 with rfl | ⟨i', k, rfl, y2, y3, y4⟩
          · refine br_t (by rw [x2]; decide) (last 0 x2 x3 x5)
          · exact step i' k x2 (by omega) y2 y3 (fun _ => last (i' + 1) x2 x3 x5) (fun q => absurd y4 q)
      · rcases V with ⟨-, x3⟩ | ⟨x2, -⟩
        · rw [← x3]; exact h
        · exact absurd x2 L
    · rw [k1] at q1; exact absurd q1 (by decide)
    · rw [k1] at q1; exact absurd q1 (by decide)
  · refine nm_r k1 (br_f (by decide) (br_f (by decide) (br_f (by decide) (br_f (by decide) (br_t rfl ?_)))))
    obtain ⟨-, ⟨q1, -⟩ | ⟨q1, -⟩ | ⟨q1, q2, ⟨l, hl, el⟩, -⟩ | ⟨q1, -⟩⟩ := N n hn
    · rw [k1] at q1; exact absurd q1 (by decide)
    · rw [k1] at q1; exact absurd q1 (by decide)
    · unfold oc_V2 at V
      rw [el, nI_clamp (by omega)] at V
      unfold wpX_selectVerdict
      refine ⟨vn, ?_⟩
      rw [cn]
      rcases V with ⟨x1, x2⟩ | ⟨x1, V⟩
      · exact br_t x1 (by rw [← x2]; exact h)
      refine br_f x1 ?_
      rcases V with ⟨x2, x3⟩ | ⟨k, x2, x3, x4, V⟩
      · exact br_t x2 (by rw [← x3]; exact h)
      · rw [x4, el]
        refine br_f (nI_ne0 (by omega) (by omega)) ⟨vn, oc_v16 (by omega) hl, ?_⟩
        rw [oc_k16 (by omega) hl]
        rcases V with ⟨y1, y2⟩ | ⟨y1, y2⟩
        · exact nm_e (br_t y1 (by rw [← y2]; exact h))
        · exact nm_e (br_f y1 (by rw [← y2]; exact h))
    · rw [k1] at q1; exact absurd q1 (by decide)
  · refine nm_r k1 (br_f (by decide) (br_t (by decide) ?_))
    obtain ⟨-, ⟨q1, -⟩ | ⟨q1, -⟩ | ⟨q1, -⟩ | ⟨q1, ⟨l, hl, el⟩, ⟨A, hA, eA⟩, -⟩⟩ := N n hn
    · rw [k1] at q1; exact absurd q1 (by decide)
    · rw [k1] at q1; exact absurd q1 (by decide)
    · rw [k1] at q1; exact absurd q1 (by decide)
    · unfold oc_V3 at V
      rw [el, nI_clamp (n := l) (by omega), eA, nI_clamp (n := A) (by omega)] at V
      unfold wpX_updateVerdict
      refine ⟨vn, ?_⟩
      rw [cn, eA, el]
      rcases V with ⟨x1, x2⟩ | ⟨x1, V⟩
      · exact br_t x1 (by rw [← x2]; exact h)
      refine br_f x1 ⟨vn, nm_e ?_⟩
      rcases V with ⟨x2, x3⟩ | ⟨x2, V⟩
      · exact br_t x2 (by rw [← x3]; exact h)
      refine br_f x2 ⟨vn, oc_v16 (by omega) hl, ?_⟩
      rw [oc_k16 (by omega) hl]
      refine nm_e ?_
      rcases V with ⟨x3, x4⟩ | ⟨x3, k, x4, x5, V⟩
      · exact br_t x3 (by rw [← x4]; exact h)
      refine br_f x3 ⟨vn, ?_⟩
      rcases (Y.2 A hA).2 l hl with y | ⟨m', y1, y2⟩
      · exact absurd y x3
      rw [y2, nI_clamp (n := m') (by omega)] at V
      rw [y2, x5]
      rcases V with ⟨z1, z2, z3⟩ | ⟨z1, z2, z3⟩ | ⟨z1, z2, z3⟩ | ⟨z1, z2, z3⟩
      · exact br_t z1 (oc_xfits (by omega) (by omega) (fun _ => br_f oc_10 (by rw [← z3]; exact h)) (fun q => absurd z2 q))
      · exact br_t z1 (oc_xfits (by omega) (by omega) (fun q => absurd q z2) (fun _ => br_t rfl (by rw [← z3]; exact h)))
      · exact br_f z1 (oc_xfits (by omega) (by omega) (fun _ => br_f oc_10 (by rw [← z3]; exact h)) (fun q => absurd z2 q))
      · exact br_f z1 (oc_xfits (by omega) (by omega) (fun q => absurd q z2) (fun _ => br_t rfl (by rw [← z3]; exact h)))
/-! X's walk from the table -/
theorem oc_xck {NC TC tc nc us ob : Nat} {fail res fl fc val : Int32} {tm mk kd par num ann rcv bod mc ml mb cd cb ce org co cr fn fe fp : Nat → Int32} {post : Int32 → SX → Prop} {r : Nat} {rt rn : Nat → Int32} (hc : nc ≤ 32) (htc : tc ≤ 32) (hr : r < nc) (N : oc_Nd nc tc kd par num ann rcv bod mc ml mb) (Y : oc_Ty tc tm mk) (T : oc_Tab tc tm kd par num ann rcv bod mc ml mb r rt rn (r + 1))
    (hE : rt r < 0 → ∀ cd, post (rt r) (nI NC, nI TC, nI tc, nI nc, rn r, res, fl, nI us, nI ob, fc, val, tm, mk, kd, par, num, ann, rcv, bod, mc, ml, mb, cd, cb, ce, org, co, cr, fn, fe, fp)) (hR : ¬ rt r < 0 → ∀ cd, post (rt r) (nI NC, nI TC, nI tc, nI nc, -1, res, fl, nI us, nI ob, fc, val, tm, mk, kd, par, num, ann, rcv, bod, mc, ml, mb, cd, cb, ce, org, co, cr, fn, fe, fp)) : wpX_typeOfTerm post (nI NC, nI TC, nI tc, nI nc, -1, res, fl, nI us, nI ob, fc, val, tm, mk, kd, par, num, ann, rcv, bod, mc, ml, mb, cd, cb, ce, org, co, cr, fn, fe, fp) (nI r) := by
  unfold wpX_typeOfTerm
  refine ⟨vp_in_nI (by omega) (by omega), nm_e ⟨65, ?_⟩⟩
  rw [nI_clamp (n := r) (by omega)]
  have sz := oc_sz_n par nc r
  refine oc_dfs hc htc hr N Y T (fun f s n ct cd => wX_typeOfTerm_14 post (nI r) (nI NC) (nI TC) (nI tc) (nI nc) (-1) res fl (nI us) (nI ob) fc val f (nI n) ct (nI s) tm mk kd par num ann rcv bod mc ml mb cd cb ce org co cr fn fe fp) (fun v e cd => post v (nI NC, nI TC, nI tc, nI nc, e, res, fl, nI us, nI ob, fc, val, tm, mk, kd, par, num, ann, rcv, bod, mc, ml, mb, cd, cb, ce, org, co, cr, fn, fe, fp)) (fun v cd => post v (nI NC, nI TC, nI tc, nI nc, -1, res, fl, nI us, nI ob, fc, val, tm, mk, kd, par, num, ann, rcv, bod, mc, ml, mb, cd, cb, ce, org, co, cr, fn, fe, fp)) ?_ ?_ ?_ ?_ r (Nat.le_refl _) 65 0 (-1) (upd cd r 0) pk_us (by omega) (by omega) (Or.inl rfl) hE (fun a _ => hR a) (fun _ a => absurd rfl a)
  · intro f s n c ct cd hs hn hcn V hO hU hW
    refine br_f (nI_ge (b := 64) (by omega) (by omega)) (oc_xvd hc htc hr hn N Y V (br_t rfl ?_))
    have vn : vp_in (nI n) 32 := vp_in_nI (by omega) (by omega)
    have cn : (nI n).toNatClampNeg = n := nI_clamp (by omega)
    have go : vp_in (nI c) 32 ∧ ∀ y : Nat → Int32, y = upd cd (nI c).toNatClampNeg 0 → ∀ x : Int32, x = nI s + 1 → wX_typeOfTerm_14 post (nI r) (nI NC) (nI TC) (nI tc) (nI nc) (-1) res fl (nI us) (nI ob) fc val f (nI c) ct x tm mk kd par num ann rcv bod mc ml mb y cb ce org co cr fn fe fp := by
      refine ⟨vp_in_nI (by omega) (by omega), nm_e (nm_r (nI_1 s) ?_)⟩
      rw [nI_clamp (n := c) (by omega)]
      exact hW
    unfold wpX_nextChild
    refine ⟨vn, ?_⟩
    rw [cn]
    by_cases k1 : kd n = 1
    · obtain ⟨i, hi, e1, e2⟩ := hO k1
      refine br_t k1 ⟨vn, ?_⟩
      rw [e1]
      refine ⟨oc_v8 (by omega) hi, ?_⟩
      rw [oc_k8 (by omega) hi, e2]
      exact go
    · refine br_f k1 ⟨vn, ?_⟩
      by_cases z : cd n = 0
      · refine br_t z ⟨vn, ?_⟩
        rw [(hU k1).1 z]
        exact go
      · refine br_f z ⟨vn, ?_⟩
        rw [(hU k1).2 z]
        exact go
  · intro f s n ct cd v hs hn V h1 h2 h3
    exact br_f (nI_ge (b := 64) (by omega) (by omega)) (oc_xvd hc htc hr hn N Y V (br_f h2 (br_f (oc_ng h1) h3)))
  · intro f s ct cd v hs V h1 h2
    refine br_f (nI_ge (b := 64) (by omega) (by omega)) (oc_xvd hc htc hr hr N Y V (br_f (fun q => h1 ?_) (br_t (oc_nn h1) (br_t rfl h2))))
    rw [q]; decide
  · intro f s n p ct cd v hs hn hp ne ep V h1 h2
    have vn : vp_in (nI n) 32 := vp_in_nI (by omega) (by omega)
    have vp : vp_in (nI p) 32 := vp_in_nI (by omega) (by omega)
    refine br_f (nI_ge (b := 64) (by omega) (by omega)) (oc_xvd hc htc hr hn N Y V (br_f (fun q => h1 ?_) (br_t (oc_nn h1) (br_f (fun q => ne ((nI_eq (by omega) (by omega)).mp q)) ⟨vn, ?_⟩))))
    · rw [q]; decide
    · rw [nI_clamp (n := n) (by omega), ep]
      refine nm_e ⟨vp, vp, nm_e (nm_r (nI_1 s) ?_)⟩
      rw [nI_clamp (n := p) (by omega)]
      exact h2
end
section
/-! Y's table of types -/
theorem oc_yse {NC TC tc nc us ob : Nat} {fail sp ret fu res : Int32} {tm kY nk rcv bod ann par mc ml mb rt rn cb oe org co cr gn ge gd gs : Nat → Int32} {post : SY → Prop} {n : Nat} {c : Int32} (hn : n < 32) (h : post (nI NC, nI TC, nI tc, nI nc, fail, sp, ret, nI us, nI ob, fu, res, tm, kY, nk, rcv, bod, ann, par, mc, ml, mb, upd rt n c, upd rn n (nI n), cb, oe, org, co, cr, gn, ge, gd, gs)) : wpY_setErr post (nI NC, nI TC, nI tc, nI nc, fail, sp, ret, nI us, nI ob, fu, res, tm, kY, nk, rcv, bod, ann, par, mc, ml, mb, rt, upd rn n (-1), cb, oe, org, co, cr, gn, ge, gd, gs) (nI n) c := by
  have vn : vp_in (nI n) 32 := vp_in_nI hn (by omega)
  refine ⟨vn, nm_e ⟨vn, nm_e ?_⟩⟩
  rw [nI_clamp (n := n) (by omega), oc_uu]
  exact h
theorem oc_ycr {NC TC tc nc us ob : Nat} {fail sp ret fu res : Int32} {tm kY nk rcv bod ann par mc ml mb rt rn cb oe org co cr gn ge gd gs : Nat → Int32} {post : SY → Prop} {n c : Nat} (hn : n < 32) (hc : c < n) (h : post (nI NC, nI TC, nI tc, nI nc, fail, sp, ret, nI us, nI ob, fu, res, tm, kY, nk, rcv, bod, ann, par, mc, ml, mb, upd rt n (rt c), upd rn n (rn c), cb, oe, org, co, cr, gn, ge, gd, gs)) : wpY_copyRes post (nI NC, nI TC, nI tc, nI nc, fail, sp, ret, nI us, nI ob, fu, res, tm, kY, nk, rcv, bod, ann, par, mc, ml, mb, rt, upd rn n (-1), cb, oe, org, co, cr, gn, ge, gd, gs) (nI n) (nI c) := by
  have vn : vp_in (nI n) 32 := vp_in_nI hn (by omega)
  have vc : vp_in (nI c) 32 := vp_in_nI (by omega) (by omega)
  refine ⟨vc, vn, nm_e ⟨vc, vn, nm_e ?_⟩⟩
  rw [nI_clamp (n := n) (by omega), nI_clamp (n := c) (by omega), oc_uu, pk_un (by omega)]
  exact h
theorem oc_ytm {NC TC tc nc us ob : Nat} {fail sp ret fu res : Int32} {tm kY nk rcv bod ann par mc ml mb rt rn cb oe org co cr gn ge gd gs : Nat → Int32} {post : Int32 → Prop} {A l : Nat} (htc : tc ≤ 32) (hA : A < tc) (hA0 : ¬ A = 0) (hl : l < 16) (h : post (tm (A * 16 + l))) : wpY_typeMember post (nI NC, nI TC, nI tc, nI nc, fail, sp, ret, nI us, nI ob, fu, res, tm, kY, nk, rcv, bod, ann, par, mc, ml, mb, rt, rn, cb, oe, org, co, cr, gn, ge, gd, gs) (nI A) (nI l) := by
  unfold wpY_typeMember
  refine oc_yT1 hA htc (br_f (nI_ne0 (by omega) (by omega)) (oc_lb1 hl ⟨oc_v16 (by omega) hl, ?_⟩))
  rw [oc_k16 (by omega) hl]
  exact h
theorem oc_ylm {NC TC tc nc us ob : Nat} {fail sp ret fu res : Int32} {tm kY nk rcv bod ann par mc ml mb rt rn cb oe org co cr gn ge gd gs : Nat → Int32} {post : Int32 → Prop} {n A m : Nat} (hn : n < 32) (hA : A < 32) (eA : ann n = nI A) (hm : mc n = nI m) (hm8 : m ≤ 8) (hl : ∀ i, i < m → ∃ l, l < 16 ∧ ml (n * 8 + i) = nI l)
    (h1 : oc_LM tm mc ml n A → post 1) (h0 : ¬ oc_LM tm mc ml n A → post 0) : wpY_labelsMatch post (nI NC, nI TC, nI tc, nI nc, fail, sp, ret, nI us, nI ob, fu, res, tm, kY, nk, rcv, bod, ann, par, mc, ml, mb, rt, rn, cb, oe, org, co, cr, gn, ge, gd, gs) (nI n) := by
  have vn : vp_in (nI n) 32 := vp_in_nI hn (by omega)
  have cn : (nI n).toNatClampNeg = n := nI_clamp (by omega)
  have cm : (mc n).toNatClampNeg = m := by rw [hm, nI_clamp (by omega)]
  have key : mc n = nI (oc_lc tm A) → ∀ d i, i + d = 8 → (∀ i', i' < i → i' < m → ¬ tm (A * 16 + (ml (n * 8 + i')).toNatClampNeg) = -1) → wY_labelsMatch_25 post (nI n) (nI A) (nI NC) (nI TC) (nI tc) (nI nc) fail sp ret (nI us) (nI ob) fu res tm kY nk rcv bod ann par mc ml mb rt rn cb oe org co cr gn ge gd gs (d + 1) (nI i) := by
    intro em d
    induction d with
    | zero =>
      intro i hi hq
      exact br_t (nI_le (a := 8) (by omega) (by omega)) (h1 ⟨em, fun i' hi' => hq i' (by rw [cm] at hi'; omega) (by rw [cm] at hi'; exact hi')⟩)
    | succ d ih =>
      intro i hi hq
      refine br_f (nI_ge (b := 8) (by omega) (by omega)) ⟨vn, ?_⟩
      rw [cn, hm]
      refine pk_le m i (fun q => nm_r (nI_1 i) (ih (i + 1) (by omega) fun i' a b => hq i' (by omega) b)) (fun q => ⟨oc_v8 hn (by omega), ?_⟩)
      obtain ⟨l, l1, l2⟩ := hl i q
      rw [oc_k8 hn (by omega), l2]
      refine ⟨oc_v16 hA l1, ?_⟩
      rw [oc_k16 hA l1]
      by_cases z : tm (A * 16 + l) = -1
      · refine br_t z (h0 fun w => w.2 i (by rw [cm]; omega) ?_)
        rw [l2, nI_clamp (by omega)]; exact z
      · refine br_f z (nm_r (nI_1 i) (ih (i + 1) (by omega) fun i' a b => ?_))
        by_cases y : i' = i
        · rw [y, l2, nI_clamp (by omega)]; exact z
        · exact hq i' (by omega) b
  unfold wpY_labelsMatch
  refine ⟨vn, ?_⟩
  rw [cn, eA]
  refine nm_e (oc_ylc hA ⟨vn, ?_⟩)
  rw [hm]
  have l16 := oc_lc_16 tm A
  by_cases e : oc_lc tm A = m
  · exact br_t (by rw [e]) ⟨9, key (by rw [hm, e]) 8 0 (by omega) fun i' hi' => absurd hi' (Nat.not_lt_zero _)⟩
  · refine br_f (fun q => e ((nI_eq (by omega) (by omega)).mp q)) (h0 fun w => e ?_)
    have w1 := w.1
    rw [hm] at w1
    exact ((nI_eq (by omega) (by omega)).mp w1).symm
/-- the methods of a literal -/
theorem oc_yob {NC TC tc nc us ob : Nat} {fail sp ret fu res : Int32} {tm kY nk rcv bod ann par mc ml mb rt rn cb oe org co cr gn ge gd gs : Nat → Int32} {n A m : Nat} (htc : tc ≤ 32) (hn : n < 32) (hA : A < tc) (hA0 : ¬ A = 0) (hm : mc n = nI m) (hm8 : m ≤ 8)
    (hb : ∀ i, i < m → ∃ l b m', l < 16 ∧ ml (n * 8 + i) = nI l ∧ b < n ∧ mb (n * 8 + i) = nI b ∧ m' < tc ∧ tm (A * 16 + l) = nI m')
    (hrt : ∀ b, b < n → rt b < 0 ∨ ∃ k, k < tc ∧ rt b = nI k) : ∀ d i, i + d = m → ∃ t e, oc_OB tm ml mb rt rn n A t e d i ∧ (t < 0 ∨ ∃ k, k < tc ∧ t = nI k) ∧
      ∀ post : SY → Prop, post (nI NC, nI TC, nI tc, nI nc, fail, sp, ret, nI us, nI ob, fu, res, tm, kY, nk, rcv, bod, ann, par, mc, ml, mb, upd rt n t, upd rn n e, cb, oe, org, co, cr, gn, ge, gd, gs) → ∀ f, 8 - i < f → wY_typeOne_100 post (nI n) (nI A) (nI NC) (nI TC) (nI tc) (nI nc) fail sp ret (nI us) (nI ob) fu res tm kY nk rcv bod ann par mc ml mb rt (upd rn n (-1)) cb oe org co cr gn ge gd gs f (nI i) := by
  have vn : vp_in (nI n) 32 := vp_in_nI hn (by omega)
  have cn : (nI n).toNatClampNeg = n := nI_clamp (by omega)
  intro d
  induction d with
  | zero =>
    intro i hi
    refine ⟨nI A, -1, ⟨rfl, rfl⟩, Or.inr ⟨A, hA, rfl⟩, fun post h f hf => ?_⟩
    obtain ⟨g, rfl⟩ : ∃ g, f = g + 1 := ⟨f - 1, by omega⟩
    have fin : vp_in (nI n) 32 ∧ ∀ y : Nat → Int32, y = upd rt (nI n).toNatClampNeg (nI A) → post (nI NC, nI TC, nI tc, nI nc, fail, sp, ret, nI us, nI ob, fu, res, tm, kY, nk, rcv, bod, ann, par, mc, ml, mb, y, upd rn n (-1), cb, oe, org, co, cr, gn, ge, gd, gs) := by
      refine ⟨vn, nm_e ?_⟩
      rw [cn]
      exact h
    refine br_c (fun _ => fin) (fun _ => ⟨vn, br_t ?_ fin⟩)
    rw [cn, hm]
    exact nI_le (by omega) (by omega)
  | succ d ih =>
    intro i hi
    obtain ⟨l, b, m', y1, y2, y3, y4, y5, y6⟩ := hb i (by omega)
    have cb0 : (mb (n * 8 + i)).toNatClampNeg = b := by rw [y4, nI_clamp (by omega)]
    have cl : (ml (n * 8 + i)).toNatClampNeg = l := by rw [y2, nI_clamp (by omega)]
    have vb : vp_in (nI b) 32 := vp_in_nI (by omega) (by omega)
    have v8 := oc_v8 hn (show i < 8 by omega)
    have k8 := oc_k8 hn (show i < 8 by omega)
    rcases hrt b y3 with z | ⟨k, z1, z2⟩
    · refine ⟨rt b, rn b, ?_, Or.inl z, fun post h f hf => ?_⟩
      · unfold oc_OB
        rw [cb0]
        exact ⟨fun _ => ⟨rfl, rfl⟩, fun q => absurd z q⟩
      · obtain ⟨g, rfl⟩ : ∃ g, f = g + 1 := ⟨f - 1, by omega⟩
        refine br_f (nI_ge (b := 8) (by omega) (by omega)) ⟨vn, ?_⟩
        rw [cn, hm]
        refine br_f (nI_ge (by omega) (by omega)) ⟨v8, ?_⟩
        rw [k8, y4]
        refine nm_e ⟨vb, br_f ?_ (oc_ycr hn y3 h)⟩
        rw [nI_clamp (n := b) (by omega)]
        exact oc_ng z
    · have nn : ¬ rt b < 0 := by rw [z2]; exact nI_pos (by omega)
      have ck : (rt b).toNatClampNeg = k := by rw [z2, nI_clamp (by omega)]
      have go : ∀ (post : SY → Prop) (g : Nat), (oc_sub tm k m' → wY_typeOne_100 post (nI n) (nI A) (nI NC) (nI TC) (nI tc) (nI nc) fail sp ret (nI us) (nI ob) fu res tm kY nk rcv bod ann par mc ml mb rt (upd rn n (-1)) cb oe org co cr gn ge gd gs g (nI (i + 1))) → (¬ oc_sub tm k m' → post (nI NC, nI TC, nI tc, nI nc, fail, sp, ret, nI us, nI ob, fu, res, tm, kY, nk, rcv, bod, ann, par, mc, ml, mb, upd rt n (-7), upd rn n (nI n), cb, oe, org, co, cr, gn, ge, gd, gs)) → wY_typeOne_100 post (nI n) (nI A) (nI NC) (nI TC) (nI tc) (nI nc) fail sp ret (nI us) (nI ob) fu res tm kY nk rcv bod ann par mc ml mb rt (upd rn n (-1)) cb oe org co cr gn ge gd gs (g + 1) (nI i) := fun post g h1 h0 => by
        refine br_f (nI_ge (b := 8) (by omega) (by omega)) ⟨vn, ?_⟩
        rw [cn, hm]
        refine br_f (nI_ge (by omega) (by omega)) ⟨v8, ?_⟩
        rw [k8, y4, y2]
        refine nm_e ⟨vb, ?_⟩
        rw [nI_clamp (n := b) (by omega)]
        refine br_t (oc_nn nn) ⟨v8, oc_ytm htc hA hA0 y1 ⟨vb, ?_⟩⟩
        rw [z2, y6]
        exact oc_ysub htc z1 y5 (fun q => br_f oc_10 (nm_r (nI_1 i) (h1 q))) (fun q => br_t rfl (oc_yse hn (h0 q)))
      rcases Classical.em (oc_sub tm k m') with q | q
      · obtain ⟨t, e, o1, o2, o3⟩ := ih (i + 1) (by omega)
        refine ⟨t, e, ?_, o2, fun post h f hf => ?_⟩
        · unfold oc_OB
          rw [cb0, cl, ck, y6, nI_clamp (n := m') (by omega)]
          exact ⟨fun w => absurd w nn, fun _ => ⟨fun _ => o1, fun w => absurd q w⟩⟩
        · obtain ⟨g, rfl⟩ : ∃ g, f = g + 1 := ⟨f - 1, by omega⟩
          exact go post g (fun _ => o3 post h g (by omega)) (fun w => absurd q w)
      · refine ⟨-7, nI n, ?_, Or.inl (by decide), fun post h f hf => ?_⟩
        · unfold oc_OB
          rw [cb0, cl, ck, y6, nI_clamp (n := m') (by omega)]
          exact ⟨fun w => absurd w nn, fun _ => ⟨fun w => absurd w q, fun _ => ⟨rfl, rfl⟩⟩⟩
        · obtain ⟨g, rfl⟩ : ∃ g, f = g + 1 := ⟨f - 1, by omega⟩
          exact go post g (fun w => absurd w q) (fun _ => h)
theorem oc_yone {NC TC tc nc us ob : Nat} {fail sp ret fu res : Int32} {tm kY nk rcv bod ann par mc ml mb rt rn cb oe org co cr gn ge gd gs : Nat → Int32} {num kd mk : Nat → Int32} {r n : Nat} (hc : nc ≤ 32) (htc : tc ≤ 32) (hr : r < nc) (hn : n < nc) (N : oc_Nd nc tc kd par num ann rcv bod mc ml mb) (hK : ∀ n, n < nc → kY n = kd n + 1 ∧ (¬ kd n = 1 → nk n = num n)) (Y : oc_Ty tc tm mk)
    (hrt : ∀ b, b < n → rt b < 0 ∨ ∃ k, k < tc ∧ rt b = nI k) : ∃ t e, oc_LT tm kd par num ann rcv bod mc ml mb r rt rn n t e ∧ (t < 0 ∨ ∃ k, k < tc ∧ t = nI k) ∧
      ∀ post : SY → Prop, post (nI NC, nI TC, nI tc, nI nc, fail, sp, ret, nI us, nI ob, fu, res, tm, kY, nk, rcv, bod, ann, par, mc, ml, mb, upd rt n t, upd rn n e, cb, oe, org, co, cr, gn, ge, gd, gs) → wpY_typeOne post (nI NC, nI TC, nI tc, nI nc, fail, sp, ret, nI us, nI ob, fu, res, tm, kY, nk, rcv, bod, ann, par, mc, ml, mb, rt, rn, cb, oe, org, co, cr, gn, ge, gd, gs) (nI n) (nI r) := by
  have vn : vp_in (nI n) 32 := vp_in_nI (by omega) (by omega)
  have cn : (nI n).toNatClampNeg = n := nI_clamp (by omega)
  have hky := (hK n hn).1
  have hnk := (hK n hn).2
  obtain ⟨-, ⟨k1, k2, k, hk, ek⟩ | ⟨k1, k2, ⟨A, hA, eA⟩, m, w4, w5, w6, w7⟩ | ⟨k1, w2, ⟨l, hl, el⟩, a, w4, w5, w6⟩ | ⟨k1, ⟨l, hl, el⟩, ⟨A, hA, eA⟩, a, b, w4, w5, w6, w7, w8, w9, w10⟩⟩ := N n hn
  · -- a variable
    have ky : kY n = 1 := by rw [hky, k1]; decide
    have nk' : nk n = nI k := by rw [hnk (by rw [k1]; decide), ek]
    have ck : (num n).toNatClampNeg = k := by rw [ek, nI_clamp (by omega)]
    have lt : ∀ t e, ((∀ p : Nat, oc_bo par kd bod r n k = (p : Int) → t = ann p ∧ e = -1) ∧ ((∀ p : Nat, ¬ oc_bo par kd bod r n k = (p : Int)) → t = -2 ∧ e = nI n)) → oc_LT tm kd par num ann rcv bod mc ml mb r rt rn n t e := fun t e w => by
      refine ⟨fun _ => by rw [ck]; exact w, fun z => ?_, fun z => ?_, fun z => ?_⟩ <;> (rw [k1] at z; exact absurd z (by decide))
    have pre : ∀ post : SY → Prop, wpY_binderType (fun r_679 => (r_679 < 0 → wpY_setErr post (nI NC, nI TC, nI tc, nI nc, fail, sp, ret, nI us, nI ob, fu, res, tm, kY, nk, rcv, bod, ann, par, mc, ml, mb, rt, upd rn n (-1), cb, oe, org, co, cr, gn, ge, gd, gs) (nI n) (-2)) ∧ (¬ r_679 < 0 → (vp_in (nI n) 32 ∧ ∀ y : Nat → Int32, y = upd rt n r_679 → post (nI NC, nI TC, nI tc, nI nc, fail, sp, ret, nI us, nI ob, fu, res, tm, kY, nk, rcv, bod, ann, par, mc, ml, mb, y, upd rn n (-1), cb, oe, org, co, cr, gn, ge, gd, gs)))) (nI NC, nI TC, nI tc, nI nc, fail, sp, ret, nI us, nI ob, fu, res, tm, kY, nk, rcv, bod, ann, par, mc, ml, mb, rt, upd rn n (-1), cb, oe, org, co, cr, gn, ge, gd, gs) (nI n) (nI r) (nI k) → wpY_typeOne post (nI NC, nI TC, nI tc, nI nc, fail, sp, ret, nI us, nI ob, fu, res, tm, kY, nk, rcv, bod, ann, par, mc, ml, mb, rt, rn, cb, oe, org, co, cr, gn, ge, gd, gs) (nI n) (nI r) := fun post w => by
      unfold wpY_typeOne
      refine ⟨vn, nm_e ⟨vn, ?_⟩⟩
      rw [cn]
      refine br_t ky ⟨vn, ?_⟩
      rw [nk']
      exact w
    rcases oc_bo_3 (kd := kd) (bod := bod) (r := r) (oc_Nd_Pa N) hc n hn k with h | h | ⟨p, m, h1, h2, h3, h4⟩
    · refine ⟨-2, nI n, lt _ _ ⟨fun p q => by rw [h] at q; omega, fun _ => ⟨rfl, rfl⟩⟩, Or.inl (by decide), fun post hp => pre post ?_⟩
      exact oc_ybo hc hr N hK hn hk (fun p _ q => by rw [h] at q; omega) (fun _ => br_t (by decide) (oc_yse (by omega) hp)) (fun q => by rw [h] at q; omega)
    · refine ⟨-2, nI n, lt _ _ ⟨fun p q => by rw [h] at q; omega, fun _ => ⟨rfl, rfl⟩⟩, Or.inl (by decide), fun post hp => pre post ?_⟩
      exact oc_ybo hc hr N hK hn hk (fun p _ q => by rw [h] at q; omega) (fun q => by rw [h] at q; omega) (fun _ => br_t (by decide) (oc_yse (by omega) hp))
    · obtain ⟨A, hA, eA⟩ := oc_ann N h1 (by omega) h4
      refine ⟨ann p, -1, lt _ _ ⟨fun p' q => ?_, fun q => absurd h3 (q p)⟩, Or.inr ⟨A, hA, eA⟩, fun post hp => pre post ?_⟩
      · have : p' = p := by rw [h3] at q; omega
        rw [this]; exact ⟨rfl, rfl⟩
      · refine oc_ybo hc hr N hK hn hk (fun p' _ q => ?_) (fun q => by rw [h3] at q; omega) (fun q => by rw [h3] at q; omega)
        have : p' = p := by rw [h3] at q; omega
        subst this
        exact br_f (by rw [eA]; exact nI_pos (by omega)) ⟨vn, nm_e hp⟩
  · -- a literal
    have ky : kY n = 2 := by rw [hky, k1]; decide
    have cA : (ann n).toNatClampNeg = A := by rw [eA, nI_clamp (by omega)]
    have cm : (mc n).toNatClampNeg = m := by rw [w5, nI_clamp (by omega)]
    have lt : ∀ t e, ((ann n = 0 → t = -3 ∧ e = nI n) ∧ (¬ ann n = 0 → (¬ oc_LM tm mc ml n A → t = -5 ∧ e = nI n) ∧ (oc_LM tm mc ml n A → oc_OB tm ml mb rt rn n A t e m 0))) → oc_LT tm kd par num ann rcv bod mc ml mb r rt rn n t e := fun t e w => by
      refine ⟨fun z => ?_, fun _ => by rw [cA, cm]; exact w, fun z => ?_, fun z => ?_⟩ <;> (rw [k1] at z; exact absurd z (by decide))
    have pre : ∀ post : SY → Prop, ((nI A = 0 → wpY_setErr post (nI NC, nI TC, nI tc, nI nc, fail, sp, ret, nI us, nI ob, fu, res, tm, kY, nk, rcv, bod, ann, par, mc, ml, mb, rt, upd rn n (-1), cb, oe, org, co, cr, gn, ge, gd, gs) (nI n) (-3)) ∧ (¬ nI A = 0 → wpY_labelsMatch (fun r_431 => (r_431 = 0 → wpY_setErr post (nI NC, nI TC, nI tc, nI nc, fail, sp, ret, nI us, nI ob, fu, res, tm, kY, nk, rcv, bod, ann, par, mc, ml, mb, rt, upd rn n (-1), cb, oe, org, co, cr, gn, ge, gd, gs) (nI n) (-5)) ∧ (¬ r_431 = 0 → ∃ n100 : Nat, wY_typeOne_100 post (nI n) (nI A) (nI NC) (nI TC) (nI tc) (nI nc) fail sp ret (nI us) (nI ob) fu res tm kY nk rcv bod ann par mc ml mb rt (upd rn n (-1)) cb oe org co cr gn ge gd gs n100 0)) (nI NC, nI TC, nI tc, nI nc, fail, sp, ret, nI us, nI ob, fu, res, tm, kY, nk, rcv, bod, ann, par, mc, ml, mb, rt, upd rn n (-1), cb, oe, org, co, cr, gn, ge, gd, gs) (nI n))) → wpY_typeOne post (nI NC, nI TC, nI tc, nI nc, fail, sp, ret, nI us, nI ob, fu, res, tm, kY, nk, rcv, bod, ann, par, mc, ml, mb, rt, rn, cb, oe, org, co, cr, gn, ge, gd, gs) (nI n) (nI r) := fun post w => by
      unfold wpY_typeOne
      refine ⟨vn, nm_e ⟨vn, ?_⟩⟩
      rw [cn]
      refine br_f (by rw [ky]; decide) ⟨vn, ?_⟩
      rw [eA]
      refine nm_e ⟨vn, br_t ky w⟩
    by_cases hA0 : A = 0
    · have a0 : ann n = 0 := by rw [eA, hA0, nI_0]
      refine ⟨-3, nI n, lt _ _ ⟨fun _ => ⟨rfl, rfl⟩, fun q => absurd a0 q⟩, Or.inl (by decide), fun post hp => pre post (br_t (by rw [hA0, nI_0]) (oc_yse (by omega) hp))⟩
    have nA0 : ¬ nI A = 0 := nI_ne0 (by omega) (by omega)
    have hl : ∀ i, i < m → ∃ l, l < 16 ∧ ml (n * 8 + i) = nI l := fun i hi => by
      obtain ⟨l, b, y1, y2, -⟩ := w6 i hi
      exact ⟨l, y1, y2⟩
    rcases Classical.em (oc_LM tm mc ml n A) with L | L
    · obtain ⟨t, e, o1, o2, o3⟩ := oc_yob (NC := NC) (TC := TC) (nc := nc) (us := us) (ob := ob) (fail := fail) (sp := sp) (ret := ret) (fu := fu) (res := res) (kY := kY) (nk := nk) (rcv := rcv) (bod := bod) (ann := ann) (par := par) (cb := cb) (oe := oe) (org := org) (co := co) (cr := cr) (gn := gn) (ge := ge) (gd := gd) (gs := gs) (tm := tm) (ml := ml) (mb := mb) (rt := rt) (rn := rn) htc (show n < 32 by omega) hA hA0 w5 w4 (fun i hi => by
        obtain ⟨l, b, y1, y2, y3, y4, -⟩ := w6 i hi
        have y5 := L.2 i (by rw [cm]; exact hi)
        rw [y2, nI_clamp (by omega)] at y5
        rcases (Y.2 A hA).2 l y1 with y | ⟨m', z4, z5⟩
        · exact absurd y y5
        · exact ⟨l, b, m', y1, y2, y3, y4, z4, z5⟩) hrt m 0 (by omega)
      exact ⟨t, e, lt _ _ ⟨fun q => absurd (by rw [← eA]; exact q) nA0, fun _ => ⟨fun q => absurd L q, fun _ => o1⟩⟩, o2, fun post hp => pre post (br_f nA0 (oc_ylm (by omega) (by omega) eA w5 w4 hl (fun _ => br_f oc_10 ⟨9, o3 post hp 9 (by omega)⟩) (fun q => absurd L q)))⟩
    · exact ⟨-5, nI n, lt _ _ ⟨fun q => absurd (by rw [← eA]; exact q) nA0, fun _ => ⟨fun _ => ⟨rfl, rfl⟩, fun q => absurd q L⟩⟩, Or.inl (by decide), fun post hp => pre post (br_f nA0 (oc_ylm (by omega) (by omega) eA w5 w4 hl (fun q => absurd q L) (fun _ => br_t rfl (oc_yse (by omega) hp))))⟩
  · -- an invocation
    have ky : kY n = 3 := by rw [hky, k1]; decide
    have nk' : nk n = nI l := by rw [hnk (by rw [k1]; decide), el]
    have va : vp_in (nI a) 32 := vp_in_nI (by omega) (by omega)
    have ca : (nI a).toNatClampNeg = a := nI_clamp (by omega)
    have lt : ∀ t e, ((rt a < 0 → t = rt a ∧ e = rn a) ∧ (¬ rt a < 0 → (rt a = 0 → t = -3 ∧ e = nI n) ∧ (¬ rt a = 0 → (tm ((rt a).toNatClampNeg * 16 + l) = -1 → t = -4 ∧ e = nI n) ∧ (¬ tm ((rt a).toNatClampNeg * 16 + l) = -1 → t = tm ((rt a).toNatClampNeg * 16 + l) ∧ e = -1)))) → oc_LT tm kd par num ann rcv bod mc ml mb r rt rn n t e := fun t e w => by
      refine ⟨fun z => ?_, fun z => ?_, fun _ => by rw [w5, ca, el, nI_clamp (n := l) (by omega)]; exact w, fun z => ?_⟩ <;> (rw [k1] at z; exact absurd z (by decide))
    have pre : ∀ post : SY → Prop, ((0 ≤ rt a → ((rt a = 0 → wpY_setErr post (nI NC, nI TC, nI tc, nI nc, fail, sp, ret, nI us, nI ob, fu, res, tm, kY, nk, rcv, bod, ann, par, mc, ml, mb, rt, upd rn n (-1), cb, oe, org, co, cr, gn, ge, gd, gs) (nI n) (-3)) ∧ (¬ rt a = 0 → wpY_typeMember (fun r_295 => (0 ≤ r_295 → (vp_in (nI n) 32 ∧ ∀ y : Nat → Int32, y = upd rt n r_295 → post (nI NC, nI TC, nI tc, nI nc, fail, sp, ret, nI us, nI ob, fu, res, tm, kY, nk, rcv, bod, ann, par, mc, ml, mb, y, upd rn n (-1), cb, oe, org, co, cr, gn, ge, gd, gs))) ∧ (¬ 0 ≤ r_295 → wpY_setErr post (nI NC, nI TC, nI tc, nI nc, fail, sp, ret, nI us, nI ob, fu, res, tm, kY, nk, rcv, bod, ann, par, mc, ml, mb, rt, upd rn n (-1), cb, oe, org, co, cr, gn, ge, gd, gs) (nI n) (-4))) (nI NC, nI TC, nI tc, nI nc, fail, sp, ret, nI us, nI ob, fu, res, tm, kY, nk, rcv, bod, ann, par, mc, ml, mb, rt, upd rn n (-1), cb, oe, org, co, cr, gn, ge, gd, gs) (rt a) (nI l)))) ∧ (¬ 0 ≤ rt a → wpY_copyRes post (nI NC, nI TC, nI tc, nI nc, fail, sp, ret, nI us, nI ob, fu, res, tm, kY, nk, rcv, bod, ann, par, mc, ml, mb, rt, upd rn n (-1), cb, oe, org, co, cr, gn, ge, gd, gs) (nI n) (nI a))) → wpY_typeOne post (nI NC, nI TC, nI tc, nI nc, fail, sp, ret, nI us, nI ob, fu, res, tm, kY, nk, rcv, bod, ann, par, mc, ml, mb, rt, rn, cb, oe, org, co, cr, gn, ge, gd, gs) (nI n) (nI r) := fun post w => by
      unfold wpY_typeOne
      refine ⟨vn, nm_e ⟨vn, ?_⟩⟩
      rw [cn]
      refine br_f (by rw [ky]; decide) ⟨vn, nm_e ⟨vn, br_f (by rw [ky]; decide) ⟨vn, ?_⟩⟩⟩
      rw [w5]
      refine nm_e ⟨va, ?_⟩
      rw [ca]
      refine ⟨fun q => ⟨va, nm_e ⟨vn, br_t ky ⟨(w.1 q).1, fun q' => ⟨vn, ?_⟩⟩⟩⟩, w.2⟩
      rw [nk']
      exact (w.1 q).2 q'
    rcases hrt a w4 with z | ⟨k, z1, z2⟩
    · exact ⟨rt a, rn a, lt _ _ ⟨fun _ => ⟨rfl, rfl⟩, fun q => absurd z q⟩, Or.inl z, fun post hp => pre post (br_f (oc_ng z) (oc_ycr (by omega) w4 hp))⟩
    have nn : ¬ rt a < 0 := by rw [z2]; exact nI_pos (by omega)
    have ck : (rt a).toNatClampNeg = k := by rw [z2, nI_clamp (by omega)]
    rw [ck] at lt
    by_cases k0 : k = 0
    · have e0 : rt a = 0 := by rw [z2, k0, nI_0]
      exact ⟨-3, nI n, lt _ _ ⟨fun q => absurd q nn, fun _ => ⟨fun _ => ⟨rfl, rfl⟩, fun q => absurd e0 q⟩⟩, Or.inl (by decide), fun post hp => pre post (br_t (oc_nn nn) (br_t e0 (oc_yse (by omega) hp)))⟩
    have e0 : ¬ rt a = 0 := by rw [z2]; exact nI_ne0 (by omega) (by omega)
    rcases (Y.2 k z1).2 l hl with y | ⟨m', y1, y2⟩
    · refine ⟨-4, nI n, lt _ _ ⟨fun q => absurd q nn, fun _ => ⟨fun q => absurd q e0, fun _ => ⟨fun _ => ⟨rfl, rfl⟩, fun q => absurd y q⟩⟩⟩, Or.inl (by decide), fun post hp => pre post (br_t (oc_nn nn) (br_f e0 ?_))⟩
      rw [z2]
      refine oc_ytm htc z1 k0 hl ?_
      rw [y]
      exact br_f (by decide) (oc_yse (by omega) hp)
    · have ny : ¬ tm (k * 16 + l) = -1 := by rw [y2]; exact oc_m1 (by omega)
      refine ⟨tm (k * 16 + l), -1, lt _ _ ⟨fun q => absurd q nn, fun _ => ⟨fun q => absurd q e0, fun _ => ⟨fun q => absurd q ny, fun _ => ⟨rfl, rfl⟩⟩⟩⟩, Or.inr ⟨m', y1, y2⟩, fun post hp => pre post (br_t (oc_nn nn) (br_f e0 ?_))⟩
      rw [z2]
      exact oc_ytm htc z1 k0 hl (br_t (by rw [y2]; exact nI_pos' (by omega)) ⟨vn, nm_e hp⟩)
  · -- an update
    have ky : kY n = 4 := by rw [hky, k1]; decide
    have nk' : nk n = nI l := by rw [hnk (by rw [k1]; decide), el]
    have va : vp_in (nI a) 32 := vp_in_nI (by omega) (by omega)
    have ca : (nI a).toNatClampNeg = a := nI_clamp (by omega)
    have vb : vp_in (nI b) 32 := vp_in_nI (by omega) (by omega)
    have cb' : (nI b).toNatClampNeg = b := nI_clamp (by omega)
    have cA : (nI A).toNatClampNeg = A := nI_clamp (by omega)
    have cl : (nI l).toNatClampNeg = l := nI_clamp (by omega)
    have lt : ∀ t e, ((rt a < 0 → t = rt a ∧ e = rn a) ∧ (¬ rt a < 0 → (nI A = 0 → t = -3 ∧ e = nI n) ∧ (¬ nI A = 0 → (tm (A * 16 + l) = -1 → t = -4 ∧ e = nI n) ∧ (¬ tm (A * 16 + l) = -1 → (¬ oc_sub tm (rt a).toNatClampNeg A → t = -6 ∧ e = nI n) ∧ (oc_sub tm (rt a).toNatClampNeg A →
        (rt b < 0 → t = rt b ∧ e = rn b) ∧ (¬ rt b < 0 → (¬ oc_sub tm (rt b).toNatClampNeg (tm (A * 16 + l)).toNatClampNeg → t = -7 ∧ e = nI n) ∧ (oc_sub tm (rt b).toNatClampNeg (tm (A * 16 + l)).toNatClampNeg → t = nI A ∧ e = -1))))))) → oc_LT tm kd par num ann rcv bod mc ml mb r rt rn n t e := fun t e w => by
      refine ⟨fun z => ?_, fun z => ?_, fun z => ?_, fun _ => by rw [w7, ca, el, cl, eA, cA, w8, cb']; exact w⟩ <;> (rw [k1] at z; exact absurd z (by decide))
    rcases hrt a w4 with z | ⟨k, z1, z2⟩
    · refine ⟨rt a, rn a, lt _ _ ⟨fun _ => ⟨rfl, rfl⟩, fun q => absurd z q⟩, Or.inl z, fun post hp => ?_⟩
      unfold wpY_typeOne
      refine ⟨vn, nm_e ⟨vn, ?_⟩⟩
      rw [cn]
      refine br_f (by rw [ky]; decide) ⟨vn, ?_⟩
      rw [eA]
      refine nm_e ⟨vn, br_f (by rw [ky]; decide) ⟨vn, ?_⟩⟩
      rw [w7]
      refine nm_e ⟨va, ?_⟩
      rw [ca]
      exact br_f (oc_ng z) (oc_ycr (by omega) w4 hp)
    have nn : ¬ rt a < 0 := by rw [z2]; exact nI_pos (by omega)
    have ck : (rt a).toNatClampNeg = k := by rw [z2, nI_clamp (by omega)]
    rw [ck] at lt
    by_cases hA0 : A = 0
    · have a0 : nI A = 0 := by rw [hA0, nI_0]
      refine ⟨-3, nI n, lt _ _ ⟨fun q => absurd q nn, fun _ => ⟨fun _ => ⟨rfl, rfl⟩, fun q => absurd a0 q⟩⟩, Or.inl (by decide), fun post hp => ?_⟩
      unfold wpY_typeOne
      refine ⟨vn, nm_e ⟨vn, ?_⟩⟩
      rw [cn]
      refine br_f (by rw [ky]; decide) ⟨vn, ?_⟩
      rw [eA]
      refine nm_e ⟨vn, br_f (by rw [ky]; decide) ⟨vn, ?_⟩⟩
      rw [w7]
      refine nm_e ⟨va, ?_⟩
      rw [ca]
      refine br_t (oc_nn nn) ⟨va, nm_e ⟨vn, br_f (by rw [ky]; decide) ?_⟩⟩
      exact br_t a0 (oc_yse (by omega) hp)
    have nA0 : ¬ nI A = 0 := nI_ne0 (by omega) (by omega)
    rcases (Y.2 A hA).2 l hl with y | ⟨m', y1, y2⟩
    · refine ⟨-4, nI n, lt _ _ ⟨fun q => absurd q nn, fun _ => ⟨fun q => absurd q nA0, fun _ => ⟨fun _ => ⟨rfl, rfl⟩, fun q => absurd y q⟩⟩⟩, Or.inl (by decide), fun post hp => ?_⟩
      unfold wpY_typeOne
      refine ⟨vn, nm_e ⟨vn, ?_⟩⟩
      rw [cn]
      refine br_f (by rw [ky]; decide) ⟨vn, ?_⟩
      rw [eA]
      refine nm_e ⟨vn, br_f (by rw [ky]; decide) ⟨vn, ?_⟩⟩
      rw [w7]
      refine nm_e ⟨va, ?_⟩
      rw [ca]
      refine br_t (oc_nn nn) ⟨va, nm_e ⟨vn, br_f (by rw [ky]; decide) ?_⟩⟩
      refine br_f nA0 ⟨vn, ?_⟩
      rw [nk', w8]
      refine oc_ytm htc hA hA0 hl ?_
      rw [y]
      exact br_f (by decide) (oc_yse (by omega) hp)
    have ny : ¬ tm (A * 16 + l) = -1 := by rw [y2]; exact oc_m1 (by omega)
    have cm' : (tm (A * 16 + l)).toNatClampNeg = m' := by rw [y2, nI_clamp (by omega)]
    rw [cm'] at lt
    rcases Classical.em (oc_sub tm k A) with s | s
    · rcases hrt b w5 with x | ⟨k', x1, x2⟩
      · refine ⟨rt b, rn b, lt _ _ ⟨fun q => absurd q nn, fun _ => ⟨fun q => absurd q nA0, fun _ => ⟨fun q => absurd q ny, fun _ => ⟨fun q => absurd s q, fun _ => ⟨fun _ => ⟨rfl, rfl⟩, fun q => absurd x q⟩⟩⟩⟩⟩, Or.inl x, fun post hp => ?_⟩
        unfold wpY_typeOne
        refine ⟨vn, nm_e ⟨vn, ?_⟩⟩
        rw [cn]
        refine br_f (by rw [ky]; decide) ⟨vn, ?_⟩
        rw [eA]
        refine nm_e ⟨vn, br_f (by rw [ky]; decide) ⟨vn, ?_⟩⟩
        rw [w7]
        refine nm_e ⟨va, ?_⟩
        rw [ca]
        refine br_t (oc_nn nn) ⟨va, nm_e ⟨vn, br_f (by rw [ky]; decide) ?_⟩⟩
        refine br_f nA0 ⟨vn, ?_⟩
        rw [nk', w8]
        refine oc_ytm htc hA hA0 hl ?_
        rw [y2]
        refine br_t (nI_pos' (by omega)) ?_
        rw [z2]
        refine oc_ysub htc z1 hA (fun _ => br_f oc_10 ⟨vn, nm_e ⟨vb, ?_⟩⟩) (fun q => absurd s q)
        rw [cb']
        exact br_f (oc_ng x) (oc_ycr (by omega) w5 hp)
      · have nx : ¬ rt b < 0 := by rw [x2]; exact nI_pos (by omega)
        have cx : (rt b).toNatClampNeg = k' := by rw [x2, nI_clamp (by omega)]
        rw [cx] at lt
        rcases Classical.em (oc_sub tm k' m') with s2 | s2
        · refine ⟨nI A, -1, lt _ _ ⟨fun q => absurd q nn, fun _ => ⟨fun q => absurd q nA0, fun _ => ⟨fun q => absurd q ny, fun _ => ⟨fun q => absurd s q, fun _ => ⟨fun q => absurd q nx, fun _ => ⟨fun q => absurd s2 q, fun _ => ⟨rfl, rfl⟩⟩⟩⟩⟩⟩⟩, Or.inr ⟨A, hA, rfl⟩, fun post hp => ?_⟩
          unfold wpY_typeOne
          refine ⟨vn, nm_e ⟨vn, ?_⟩⟩
          rw [cn]
          refine br_f (by rw [ky]; decide) ⟨vn, ?_⟩
          rw [eA]
          refine nm_e ⟨vn, br_f (by rw [ky]; decide) ⟨vn, ?_⟩⟩
          rw [w7]
          refine nm_e ⟨va, ?_⟩
          rw [ca]
          refine br_t (oc_nn nn) ⟨va, nm_e ⟨vn, br_f (by rw [ky]; decide) ?_⟩⟩
          refine br_f nA0 ⟨vn, ?_⟩
          rw [nk', w8]
          refine oc_ytm htc hA hA0 hl ?_
          rw [y2]
          refine br_t (nI_pos' (by omega)) ?_
          rw [z2]
          refine oc_ysub htc z1 hA (fun _ => br_f oc_10 ⟨vn, nm_e ⟨vb, ?_⟩⟩) (fun q => absurd s q)
          rw [cb']
          refine br_t (oc_nn nx) ⟨vb, ?_⟩
          rw [x2]
          exact oc_ysub htc x1 y1 (fun _ => br_f oc_10 ⟨vn, nm_e hp⟩) (fun q => absurd s2 q)
        · refine ⟨-7, nI n, lt _ _ ⟨fun q => absurd q nn, fun _ => ⟨fun q => absurd q nA0, fun _ => ⟨fun q => absurd q ny, fun _ => ⟨fun q => absurd s q, fun _ => ⟨fun q => absurd q nx, fun _ => ⟨fun _ => ⟨rfl, rfl⟩, fun q => absurd q s2⟩⟩⟩⟩⟩⟩, Or.inl (by decide), fun post hp => ?_⟩
          unfold wpY_typeOne
          refine ⟨vn, nm_e ⟨vn, ?_⟩⟩
          rw [cn]
          refine br_f (by rw [ky]; decide) ⟨vn, ?_⟩
          rw [eA]
          refine nm_e ⟨vn, br_f (by rw [ky]; decide) ⟨vn, ?_⟩⟩
          rw [w7]
          refine nm_e ⟨va, ?_⟩
          rw [ca]
          refine br_t (oc_nn nn) ⟨va, nm_e ⟨vn, br_f (by rw [ky]; decide) ?_⟩⟩
          refine br_f nA0 ⟨vn, ?_⟩
          rw [nk', w8]
          refine oc_ytm htc hA hA0 hl ?_
          rw [y2]
          refine br_t (nI_pos' (by omega)) ?_
          rw [z2]
          refine oc_ysub htc z1 hA (fun _ => br_f oc_10 ⟨vn, nm_e ⟨vb, ?_⟩⟩) (fun q => absurd s q)
          rw [cb']
          refine br_t (oc_nn nx) ⟨vb, ?_⟩
          rw [x2]
          exact oc_ysub htc x1 y1 (fun q => absurd q s2) (fun _ => br_t rfl (oc_yse (by omega) hp))
    · refine ⟨-6, nI n, lt _ _ ⟨fun q => absurd q nn, fun _ => ⟨fun q => absurd q nA0, fun _ => ⟨fun q => absurd q ny, fun _ => ⟨fun _ => ⟨rfl, rfl⟩, fun q => absurd q s⟩⟩⟩⟩, Or.inl (by decide), fun post hp => ?_⟩
      unfold wpY_typeOne
      refine ⟨vn, nm_e ⟨vn, ?_⟩⟩
      rw [cn]
      refine br_f (by rw [ky]; decide) ⟨vn, ?_⟩
      rw [eA]
      refine nm_e ⟨vn, br_f (by rw [ky]; decide) ⟨vn, ?_⟩⟩
      rw [w7]
      refine nm_e ⟨va, ?_⟩
      rw [ca]
      refine br_t (oc_nn nn) ⟨va, nm_e ⟨vn, br_f (by rw [ky]; decide) ?_⟩⟩
      refine br_f nA0 ⟨vn, ?_⟩
      rw [nk', w8]
      refine oc_ytm htc hA hA0 hl ?_
      rw [y2]
      refine br_t (nI_pos' (by omega)) ?_
      rw [z2]
      exact oc_ysub htc z1 hA (fun q => absurd q s) (fun _ => br_t rfl (oc_yse (by omega) hp))
/-! the whole check -/
theorem oc_yck {NC TC tc nc us ob : Nat} {fail sp ret fu res : Int32} {tm kY nk rcv bod ann par mc ml mb rt rn cb oe org co cr gn ge gd gs : Nat → Int32} {num kd mk : Nat → Int32} {r : Nat} (hc : nc ≤ 32) (htc : tc ≤ 32) (hr : r < nc) (N : oc_Nd nc tc kd par num ann rcv bod mc ml mb) (hK : ∀ n, n < nc → kY n = kd n + 1 ∧ (¬ kd n = 1 → nk n = num n)) (Y : oc_Ty tc tm mk) :
    ∃ rt' rn' : Nat → Int32, oc_Tab tc tm kd par num ann rcv bod mc ml mb r rt' rn' (r + 1) ∧ ∀ post : Int32 → SY → Prop, (rt' r < 0 → post (rt' r) (nI NC, nI TC, nI tc, nI nc, rn' r, sp, ret, nI us, nI ob, fu, res, tm, kY, nk, rcv, bod, ann, par, mc, ml, mb, rt', rn', cb, oe, org, co, cr, gn, ge, gd, gs)) → (¬ rt' r < 0 → post (rt' r) (nI NC, nI TC, nI tc, nI nc, -1, sp, ret, nI us, nI ob, fu, res, tm, kY, nk, rcv, bod, ann, par, mc, ml, mb, rt', rn', cb, oe, org, co, cr, gn, ge, gd, gs)) → wpY_check post (nI NC, nI TC, nI tc, nI nc, fail, sp, ret, nI us, nI ob, fu, res, tm, kY, nk, rcv, bod, ann, par, mc, ml, mb, rt, rn, cb, oe, org, co, cr, gn, ge, gd, gs) (nI r) := by
  have key : ∀ d i, i + d = r + 1 → ∀ rt rn : Nat → Int32, oc_Tab tc tm kd par num ann rcv bod mc ml mb r rt rn i → ∃ rt' rn' : Nat → Int32, oc_Tab tc tm kd par num ann rcv bod mc ml mb r rt' rn' (r + 1) ∧ ∀ post : Int32 → SY → Prop, (rt' r < 0 → post (rt' r) (nI NC, nI TC, nI tc, nI nc, rn' r, sp, ret, nI us, nI ob, fu, res, tm, kY, nk, rcv, bod, ann, par, mc, ml, mb, rt', rn', cb, oe, org, co, cr, gn, ge, gd, gs)) → (¬ rt' r < 0 → post (rt' r) (nI NC, nI TC, nI tc, nI nc, -1, sp, ret, nI us, nI ob, fu, res, tm, kY, nk, rcv, bod, ann, par, mc, ml, mb, rt', rn', cb, oe, org, co, cr, gn, ge, gd, gs)) → wY_check_17 post (nI r) (d + 1) (nI i) (nI NC) (nI TC) (nI tc) (nI nc) fail sp ret (nI us) (nI ob) fu res tm kY nk rcv bod ann par mc ml mb rt rn cb oe org co cr gn ge gd gs := by
    intro d
    induction d with
    | zero =>
      intro i hi rt rn T
      have vr : vp_in (nI r) 32 := vp_in_nI (by omega) (by omega)
      rw [show i = r + 1 by omega] at T ⊢
      refine ⟨rt, rn, T, fun post h1 h0 => br_t (nI_lt (by omega) (by omega)) ⟨vr, ?_⟩⟩
      rw [nI_clamp (n := r) (by omega)]
      by_cases z : rt r < 0
      · exact br_f (oc_ng z) ⟨vr, nm_e ⟨vr, h1 z⟩⟩
      · exact br_t (oc_nn z) ⟨vr, h0 z⟩
    | succ d ih =>
      intro i hi rt rn T
      obtain ⟨t, e, o1, o2, o3⟩ := oc_yone (NC := NC) (TC := TC) (us := us) (ob := ob) (fail := fail) (sp := sp) (ret := ret) (fu := fu) (res := res) (cb := cb) (oe := oe) (org := org) (co := co) (cr := cr) (gn := gn) (ge := ge) (gd := gd) (gs := gs) (rt := rt) (rn := rn) hc htc hr (show i < nc by omega) N hK Y (fun b hb => (T b hb).2)
      obtain ⟨rt', rn', p1, p2⟩ := ih (i + 1) (by omega) (upd rt i t) (upd rn i e) (oc_Tab_up hc (by omega) N T o1 o2)
      refine ⟨rt', rn', p1, fun post h1 h0 => br_f (nI_nlt (by omega) (by omega)) (o3 _ (nm_r (nI_1 i) (p2 post h1 h0)))⟩
  obtain ⟨rt', rn', p1, p2⟩ := key (r + 1) 0 (by omega) rt rn (fun n hn => absurd hn (Nat.not_lt_zero _))
  refine ⟨rt', rn', p1, fun post h1 h0 => ?_⟩
  unfold wpY_check
  exact oc_yN1 hr hc ⟨r + 2, p2 post h1 h0⟩
theorem i_vc_check {k : Nat} {u : SX} {v : SY} (I : i_Rel k u v) (hk : k + 5 ≤ 2562) (v1 : Int32) : wpX_check (fun r u' => wpY_check (fun r' v' => r' = r ∧ i_Rel (k + 5) u' v') v v1) u v1 := by
  obtain ⟨NC, TC, tc, nc, us, ob, fail, res, fl, fc, val, sp, ret, fu, tm, mk, kd, par, num, ann, rcv, bod, mc, ml, mb, cd, cb, ce, org, co, cr, fn, fe, fp, kY, nk, rt, rn, oe, gn, ge, gd, gs, rfl, rfl, hI⟩ := I
  have H := hI
  obtain ⟨h1, h2, h3, h4, h5, h6, h7, hN, hT, hm, hK, hr⟩ := hI
  unfold wpX_check
  rcases oc_ix v1 (n := nc) (by omega) with a | ⟨a, ha, rfl⟩
  · refine oc_xN0 a ?_
    unfold wpY_check
    exact oc_yN0 a ⟨rfl, oc_mk H⟩
  · refine oc_xN1 ha (by omega) ?_
    obtain ⟨rt', rn', p1, p2⟩ := oc_yck (NC := NC) (TC := TC) (us := us) (ob := ob) (fail := fail) (sp := sp) (ret := ret) (fu := fu) (res := res) (cb := cb) (oe := oe) (org := org) (co := co) (cr := cr) (gn := gn) (ge := ge) (gd := gd) (gs := gs) (rt := rt) (rn := rn) (show nc ≤ 32 by omega) (show tc ≤ 32 by omega) ha hN hK hT
    refine oc_xck (fail := fail) (by omega) (by omega) ha hN hT p1 (fun z cd' => ?_) (fun z cd' => ?_)
    · exact p2 _ (fun _ => ⟨rfl, oc_mk H⟩) (fun q => absurd z q)
    · exact p2 _ (fun q => absurd q z) (fun _ => ⟨rfl, oc_mk H⟩)
end
section
/-! the steps of X's machine, each with what it leaves -/
theorem oc_xlv {NC TC tc nc us ob : Nat} {fail res fl val : Int32} {tm mk kd par num ann rcv bod mc ml mb cd cb ce org co cr fn fe fp : Nat → Int32} {post : Int32 → SX → Prop} {q : Nat} {o : Int32} (h : post 0 (nI NC, nI TC, nI tc, nI nc, fail, res, fl, nI us, nI ob, nI q, o, tm, mk, kd, par, num, ann, rcv, bod, mc, ml, mb, cd, cb, ce, org, co, cr, fn, fe, fp)) : wpX_leaveWith post (nI NC, nI TC, nI tc, nI nc, fail, res, fl, nI us, nI ob, nI (q + 1), val, tm, mk, kd, par, num, ann, rcv, bod, mc, ml, mb, cd, cb, ce, org, co, cr, fn, fe, fp) o := nm_r (nI_pred q) h
theorem oc_xen1 {NC TC tc nc us ob : Nat} {fail res fl val : Int32} {tm mk kd par num ann rcv bod mc ml mb cd cb ce org co cr fn fe fp : Nat → Int32} {post : Int32 → SX → Prop} {q : Nat} {n e : Int32} (hq : q < 48) (h : post 0 (nI NC, nI TC, nI tc, nI nc, fail, res, fl, nI us, nI ob, nI (q + 1), val, tm, mk, kd, par, num, ann, rcv, bod, mc, ml, mb, cd, cb, ce, org, co, cr, upd fn q n, upd fe q e, upd fp q 0)) : wpX_enter post (nI NC, nI TC, nI tc, nI nc, fail, res, fl, nI us, nI ob, nI q, val, tm, mk, kd, par, num, ann, rcv, bod, mc, ml, mb, cd, cb, ce, org, co, cr, fn, fe, fp) n e := by
  have vq : vp_in (nI q) 48 := vp_in_nI hq (by omega)
  unfold wpX_enter
  refine br_t (nI_lt (b := 48) hq (by omega)) ⟨vq, nm_e ⟨vq, nm_e ⟨vq, nm_e (nm_e ?_)⟩⟩⟩
  rw [nI_clamp (n := q) (by omega), nI_1]
  exact h
theorem oc_xen0 {NC TC tc nc us ob : Nat} {fail res fl val : Int32} {tm mk kd par num ann rcv bod mc ml mb cd cb ce org co cr fn fe fp : Nat → Int32} {post : Int32 → SX → Prop} {q : Nat} {n e : Int32} (hq : 48 ≤ q) (hq2 : q < 2 ^ 31) (h : post 4 (nI NC, nI TC, nI tc, nI nc, fail, res, fl, nI us, nI ob, nI q, val, tm, mk, kd, par, num, ann, rcv, bod, mc, ml, mb, cd, cb, ce, org, co, cr, fn, fe, fp)) : wpX_enter post (nI NC, nI TC, nI tc, nI nc, fail, res, fl, nI us, nI ob, nI q, val, tm, mk, kd, par, num, ann, rcv, bod, mc, ml, mb, cd, cb, ce, org, co, cr, fn, fe, fp) n e := by
  unfold wpX_enter
  exact br_f (nI_nlt (b := 48) hq hq2) h
/-- both sides look a variable up -/
theorem oc_look {NC TC tc nc us ob : Nat} {fail res fl val sp ret fu : Int32} {tm mk kd par num ann rcv bod mc ml mb cd cb ce org co cr fn fe fp kY nk rt rn oe gn ge gd gs : Nat → Int32} {q n k : Nat} (hus : us ≤ 128) (hn : n < 32) (hk : k < 16) (ek : num n = nI k) : ∀ d i e, i + d = k → oc_En co cr us ob (d + 1) e → ∃ o, o < ob ∧
    (∀ post : Int32 → SX → Prop, post 0 (nI NC, nI TC, nI tc, nI nc, fail, res, fl, nI us, nI ob, nI q, nI o, tm, mk, kd, par, num, ann, rcv, bod, mc, ml, mb, cd, cb, ce, org, co, cr, fn, fe, fp) → wX_advanceVariable_5 post (nI n) (nI NC) (nI TC) (nI tc) (nI nc) fail res fl (nI us) (nI ob) (nI (q + 1)) val tm mk kd par num ann rcv bod mc ml mb cd cb ce org co cr fn fe fp (d + 1) e (nI i)) ∧
    (∀ post : Int32 → Prop, post (nI o) → wY_lookup_5 post (nI k) (nI NC) (nI TC) (nI tc) (nI nc) fail sp ret (nI us) (nI ob) fu res tm kY nk rcv bod ann par mc ml mb rt rn cb oe org co cr gn ge gd gs (d + 1) e (nI i)) := by
  have vn : vp_in (nI n) 32 := vp_in_nI hn (by omega)
  have cn : (nI n).toNatClampNeg = n := nI_clamp (by omega)
  intro d
  induction d with
  | zero =>
    intro i e hi hE
    obtain ⟨c, o, y1, rfl, y3, y4, -⟩ := hE
    have vc : vp_in (nI c) 128 := vp_in_nI (by omega) (by omega)
    have cc : (nI c).toNatClampNeg = c := nI_clamp (by omega)
    refine ⟨o, y3, fun post h => ⟨vn, ?_⟩, fun post h => ?_⟩
    · rw [cn, ek]
      refine br_t (nI_le (by omega) (by omega)) ⟨vc, ?_⟩
      rw [cc, y4]
      exact oc_xlv h
    · refine br_f (nI_ge (b := 16) (by omega) (by omega)) (br_t (nI_le (by omega) (by omega)) (br_t (nI_pos' (by omega)) ⟨vc, ?_⟩))
      rw [cc, y4]
      exact h
  | succ d ih =>
    intro i e hi hE
    obtain ⟨c, o', y1, rfl, y3, y4, y5⟩ := hE
    have vc : vp_in (nI c) 128 := vp_in_nI (by omega) (by omega)
    have cc : (nI c).toNatClampNeg = c := nI_clamp (by omega)
    obtain ⟨o, o1, o2, o3⟩ := ih (i + 1) (cr c) (by omega) y5
    refine ⟨o, o1, fun post h => ⟨vn, ?_⟩, fun post h => ?_⟩
    · rw [cn, ek]
      refine br_f (nI_ge (by omega) (by omega)) ⟨vc, ?_⟩
      rw [cc]
      exact nm_e (nm_r (nI_1 i) (o2 post h))
    · refine br_f (nI_ge (b := 16) (by omega) (by omega)) (br_f (nI_ge (by omega) (by omega)) (br_t (nI_pos' (by omega)) ⟨vc, ?_⟩))
      rw [cc]
      exact nm_e (nm_r (nI_1 i) (o3 post h))
/-- a new object from a literal -/
theorem oc_xob {NC TC tc nc us ob : Nat} {fail res fl val : Int32} {tm mk kd par num ann rcv bod mc ml mb cd cb ce org co cr fn fe fp : Nat → Int32} {post : Int32 → SX → Prop} {q n m : Nat} {e : Int32} (hn : n < 32) (hob : ob < 32) (hm : mc n = nI m) (hm8 : m ≤ 8) (hl : ∀ i, i < m → ∃ l, l < 16 ∧ ml (n * 8 + i) = nI l)
    (h : post 0 (nI NC, nI TC, nI tc, nI nc, fail, res, fl, nI us, nI (ob + 1), nI q, nI ob, tm, mk, kd, par, num, ann, rcv, bod, mc, ml, mb, cd, oc_mt (oc_fi cb ob (-1) 16) ml mb ob n m, oc_mt ce ml (fun _ => e) ob n m, upd org ob (ann n), co, cr, fn, fe, fp)) : wpX_advanceObject post (nI NC, nI TC, nI tc, nI nc, fail, res, fl, nI us, nI ob, nI (q + 1), val, tm, mk, kd, par, num, ann, rcv, bod, mc, ml, mb, cd, cb, ce, org, co, cr, fn, fe, fp) (nI n) e := by
  have vn : vp_in (nI n) 32 := vp_in_nI hn (by omega)
  have cn : (nI n).toNatClampNeg = n := nI_clamp (by omega)
  have key2 : ∀ d i, i + d = m → wX_advanceObject_70 post (nI n) e (nI ob) (nI NC) (nI TC) (nI tc) (nI nc) fail res fl (nI us) (nI (ob + 1)) (nI (q + 1)) val (d + 1) (nI i) tm mk kd par num ann rcv bod mc ml mb cd (oc_mt (oc_fi cb ob (-1) 16) ml mb ob n i) (oc_mt ce ml (fun _ => e) ob n i) (upd org ob (ann n)) co cr fn fe fp := by
    intro d
    induction d with
    | zero =>
      intro i hi
      refine ⟨vn, ?_⟩
      rw [cn, hm, show i = m by omega]
      exact br_t (nI_le (Nat.le_refl _) (by omega)) (oc_xlv h)
    | succ d ih =>
      intro i hi
      obtain ⟨l, l1, l2⟩ := hl i (by omega)
      refine ⟨vn, ?_⟩
      rw [cn, hm]
      refine br_f (nI_ge (by omega) (by omega)) (nm_r (oc_i8 n i) ?_)
      have v8 : vp_in (nI (n * 8 + i)) 256 := vp_in_nI (by omega) (by omega)
      refine ⟨v8, ?_⟩
      rw [nI_clamp (n := n * 8 + i) (by omega), l2]
      refine nm_r (oc_i16 ob l) ⟨v8, ?_⟩
      have v16 : vp_in (nI (ob * 16 + l)) 512 := vp_in_nI (by omega) (by omega)
      refine ⟨v16, nm_e ⟨v16, nm_e (nm_r (nI_1 i) ?_)⟩⟩
      have g := ih (i + 1) (by omega)
      unfold oc_mt at g
      rw [l2, nI_clamp (n := l) (by omega)] at g
      rw [nI_clamp (n := ob * 16 + l) (by omega)]
      exact g
  have key : ∀ d l, l + d = 16 → wX_advanceObject_41 post (nI n) e (nI ob) (nI NC) (nI TC) (nI tc) (nI nc) fail res fl (nI us) (nI (ob + 1)) (nI (q + 1)) val (d + 1) (nI l) tm mk kd par num ann rcv bod mc ml mb cd (oc_fi cb ob (-1) l) ce (upd org ob (ann n)) co cr fn fe fp := by
    intro d
    induction d with
    | zero =>
      intro l hl'
      rw [show l = 16 by omega]
      exact br_t (nI_le (a := 16) (by omega) (by omega)) ⟨m + 1, key2 m 0 (by omega)⟩
    | succ d ih =>
      intro l hl'
      refine br_f (nI_ge (b := 16) (by omega) (by omega)) ⟨oc_v16 hob (by omega), nm_e (nm_r (nI_1 l) ?_)⟩
      rw [oc_k16 hob (by omega)]
      exact ih (l + 1) (by omega)
  unfold wpX_advanceObject
  refine br_t (nI_lt (b := 32) hob (by omega)) (nm_r (nI_1 ob) ⟨vn, vp_in_nI hob (by omega), nm_e ?_⟩)
  rw [cn, nI_clamp (n := ob) (by omega)]
  exact ⟨17, key 16 0 rfl⟩
/-- a new object from an update -/
theorem oc_xud {NC TC tc nc us ob : Nat} {fail res fl : Int32} {tm mk kd par num ann rcv bod mc ml mb cd cb ce org co cr fn fe fp : Nat → Int32} {post : Int32 → SX → Prop} {n l v q : Nat} {e : Int32} (hn : n < 32) (hob : ob < 32) (hv : v < ob) (hl : l < 16) (el : num n = nI l)
    (h : post 0 (nI NC, nI TC, nI tc, nI nc, fail, res, fl, nI us, nI (ob + 1), nI q, nI ob, tm, mk, kd, par, num, ann, rcv, bod, mc, ml, mb, cd, upd (oc_tc cb v ob 16) (ob * 16 + l) (bod n), upd (oc_tc ce v ob 16) (ob * 16 + l) e, upd org ob (ann n), co, cr, fn, fe, fp)) :
    ∃ n96 : Nat, wX_advanceUpdate_96 post (nI n) e (nI ob) (nI NC) (nI TC) (nI tc) (nI nc) fail res fl (nI us) (nI (ob + 1)) (nI (q + 1)) (nI v) n96 0 tm mk kd par num ann rcv bod mc ml mb cd cb ce (upd org ob (ann n)) co cr fn fe fp := by
  have vn : vp_in (nI n) 32 := vp_in_nI hn (by omega)
  have cn : (nI n).toNatClampNeg = n := nI_clamp (by omega)
  have key : ∀ d x, x + d = 16 → wX_advanceUpdate_96 post (nI n) e (nI ob) (nI NC) (nI TC) (nI tc) (nI nc) fail res fl (nI us) (nI (ob + 1)) (nI (q + 1)) (nI v) (d + 1) (nI x) tm mk kd par num ann rcv bod mc ml mb cd (oc_tc cb v ob x) (oc_tc ce v ob x) (upd org ob (ann n)) co cr fn fe fp := by
    intro d
    induction d with
    | zero =>
      intro x hx
      rw [show x = 16 by omega]
      refine br_t (nI_le (a := 16) (by omega) (by omega)) ⟨vn, ?_⟩
      rw [cn, el]
      have v16 : vp_in (nI (ob * 16 + l)) 512 := vp_in_nI (by omega) (by omega)
      refine nm_r (oc_i16 ob l) ⟨vn, v16, nm_e ⟨v16, nm_e ?_⟩⟩
      rw [nI_clamp (n := ob * 16 + l) (by omega)]
      exact oc_xlv h
    | succ d ih =>
      intro x hx
      refine br_f (nI_ge (b := 16) (by omega) (by omega)) ⟨oc_v16 (by omega) (by omega), oc_v16 hob (by omega), nm_e ⟨oc_v16 (by omega) (by omega), oc_v16 hob (by omega), nm_e (nm_r (nI_1 x) ?_)⟩⟩
      rw [oc_k16 hob (by omega), oc_k16 (a := v) (by omega) (by omega)]
      exact ih (x + 1) (by omega)
  exact ⟨17, key 16 0 rfl⟩
/-! one step from the frame on top -/
theorem oc_xa0 {NC TC tc nc us ob : Nat} {fail res fl val : Int32} {tm mk kd par num ann rcv bod mc ml mb cd cb ce org co cr fn fe fp : Nat → Int32} {post : Int32 → SX → Prop} {q n : Nat} (hq : q < 48) (hn : n < 32) (en : fn q = nI n) (ek : kd n = 0) (h : ∃ f, wX_advanceVariable_5 post (nI n) (nI NC) (nI TC) (nI tc) (nI nc) fail res fl (nI us) (nI ob) (nI (q + 1)) val tm mk kd par num ann rcv bod mc ml mb cd cb ce org co cr fn fe fp f (fe q) 0) : wpX_advance post (nI NC, nI TC, nI tc, nI nc, fail, res, fl, nI us, nI ob, nI (q + 1), val, tm, mk, kd, par, num, ann, rcv, bod, mc, ml, mb, cd, cb, ce, org, co, cr, fn, fe, fp) := by
  have vq : vp_in (nI q) 48 := vp_in_nI hq (by omega)
  have vn : vp_in (nI n) 32 := vp_in_nI hn (by omega)
  unfold wpX_advance
  refine nm_r (nI_pred q) ⟨vq, ?_⟩
  rw [nI_clamp (n := q) (by omega), en]
  refine nm_e ⟨vq, nm_e ⟨vn, ?_⟩⟩
  rw [nI_clamp (n := n) (by omega)]
  exact nm_r ek (br_f (by decide) (br_f (by decide) (br_t rfl h)))
theorem oc_xa1 {NC TC tc nc us ob : Nat} {fail res fl val : Int32} {tm mk kd par num ann rcv bod mc ml mb cd cb ce org co cr fn fe fp : Nat → Int32} {post : Int32 → SX → Prop} {q n : Nat} (hq : q < 48) (hn : n < 32) (en : fn q = nI n) (ek : kd n = 1) (h : wpX_advanceObject post (nI NC, nI TC, nI tc, nI nc, fail, res, fl, nI us, nI ob, nI (q + 1), val, tm, mk, kd, par, num, ann, rcv, bod, mc, ml, mb, cd, cb, ce, org, co, cr, fn, fe, fp) (nI n) (fe q)) : wpX_advance post (nI NC, nI TC, nI tc, nI nc, fail, res, fl, nI us, nI ob, nI (q + 1), val, tm, mk, kd, par, num, ann, rcv, bod, mc, ml, mb, cd, cb, ce, org, co, cr, fn, fe, fp) := by
  have vq : vp_in (nI q) 48 := vp_in_nI hq (by omega)
  have vn : vp_in (nI n) 32 := vp_in_nI hn (by omega)
  unfold wpX_advance
  refine nm_r (nI_pred q) ⟨vq, ?_⟩
  rw [nI_clamp (n := q) (by omega), en]
  refine nm_e ⟨vq, nm_e ⟨vn, ?_⟩⟩
  rw [nI_clamp (n := n) (by omega)]
  exact nm_r ek (br_f (by decide) (br_f (by decide) (br_f (by decide) (br_t rfl h))))
theorem oc_xa2 {NC TC tc nc us ob : Nat} {fail res fl val : Int32} {tm mk kd par num ann rcv bod mc ml mb cd cb ce org co cr fn fe fp : Nat → Int32} {post : Int32 → SX → Prop} {q n : Nat} (hq : q < 48) (hn : n < 32) (en : fn q = nI n) (ek : kd n = 2) (h : wpX_advanceSelect post (nI NC, nI TC, nI tc, nI nc, fail, res, fl, nI us, nI ob, nI (q + 1), val, tm, mk, kd, par, num, ann, rcv, bod, mc, ml, mb, cd, cb, ce, org, co, cr, fn, fe, fp) (nI n) (fe q) (nI q)) : wpX_advance post (nI NC, nI TC, nI tc, nI nc, fail, res, fl, nI us, nI ob, nI (q + 1), val, tm, mk, kd, par, num, ann, rcv, bod, mc, ml, mb, cd, cb, ce, org, co, cr, fn, fe, fp) := by
  have vq : vp_in (nI q) 48 := vp_in_nI hq (by omega)
  have vn : vp_in (nI n) 32 := vp_in_nI hn (by omega)
  unfold wpX_advance
  refine nm_r (nI_pred q) ⟨vq, ?_⟩
  rw [nI_clamp (n := q) (by omega), en]
  refine nm_e ⟨vq, nm_e ⟨vn, ?_⟩⟩
  rw [nI_clamp (n := n) (by omega)]
  exact nm_r ek (br_f (by decide) (br_f (by decide) (br_f (by decide) (br_f (by decide) (br_t rfl h)))))
theorem oc_xa3 {NC TC tc nc us ob : Nat} {fail res fl val : Int32} {tm mk kd par num ann rcv bod mc ml mb cd cb ce org co cr fn fe fp : Nat → Int32} {post : Int32 → SX → Prop} {q n : Nat} (hq : q < 48) (hn : n < 32) (en : fn q = nI n) (ek : kd n = 3) (h : wpX_advanceUpdate post (nI NC, nI TC, nI tc, nI nc, fail, res, fl, nI us, nI ob, nI (q + 1), val, tm, mk, kd, par, num, ann, rcv, bod, mc, ml, mb, cd, cb, ce, org, co, cr, fn, fe, fp) (nI n) (fe q) (nI q)) : wpX_advance post (nI NC, nI TC, nI tc, nI nc, fail, res, fl, nI us, nI ob, nI (q + 1), val, tm, mk, kd, par, num, ann, rcv, bod, mc, ml, mb, cd, cb, ce, org, co, cr, fn, fe, fp) := by
  have vq : vp_in (nI q) 48 := vp_in_nI hq (by omega)
  have vn : vp_in (nI n) 32 := vp_in_nI hn (by omega)
  unfold wpX_advance
  refine nm_r (nI_pred q) ⟨vq, ?_⟩
  rw [nI_clamp (n := q) (by omega), en]
  refine nm_e ⟨vq, nm_e ⟨vn, ?_⟩⟩
  rw [nI_clamp (n := n) (by omega)]
  exact nm_r ek (br_f (by decide) (br_t (by decide) h))
end
section
/-! the steps of Y's machine -/
theorem oc_yps {NC TC tc nc us ob : Nat} {fail ret fu res : Int32} {tm kY nk rcv bod ann par mc ml mb rt rn cb oe org co cr gn ge gd gs : Nat → Int32} {post : Int32 → SY → Prop} {q : Nat} {n e d : Int32} (hq : q < 64) (h : post (-1) (nI NC, nI TC, nI tc, nI nc, fail, nI (q + 1), ret, nI us, nI ob, fu, res, tm, kY, nk, rcv, bod, ann, par, mc, ml, mb, rt, rn, cb, oe, org, co, cr, upd gn q n, upd ge q e, upd gd q d, upd gs q 0)) : wpY_push post (nI NC, nI TC, nI tc, nI nc, fail, nI q, ret, nI us, nI ob, fu, res, tm, kY, nk, rcv, bod, ann, par, mc, ml, mb, rt, rn, cb, oe, org, co, cr, gn, ge, gd, gs) n e d := by
  have vq : vp_in (nI q) 64 := vp_in_nI hq (by omega)
  unfold wpY_push
  refine br_t (nI_lt (b := 64) hq (by omega)) ⟨vq, nm_e ⟨vq, nm_e ⟨vq, nm_e ⟨vq, nm_e (nm_e ?_)⟩⟩⟩⟩
  rw [nI_clamp (n := q) (by omega), nI_1]
  exact h
theorem oc_yob1 {NC TC tc nc us ob : Nat} {fail fu res : Int32} {tm kY nk rcv bod ann par mc ml mb rt rn cb oe org co cr gn ge gd gs : Nat → Int32} {post : Int32 → SY → Prop} {ret : Int32} {q n m : Nat} {e : Int32} (hn : n < 32) (hob : ob < 32) (hm : mc n = nI m) (hm8 : m ≤ 8) (hl : ∀ i, i < m → ∃ l, l < 16 ∧ ml (n * 8 + i) = nI l)
    (h : post (-1) (nI NC, nI TC, nI tc, nI nc, fail, nI q, nI ob, nI us, nI (ob + 1), fu, res, tm, kY, nk, rcv, bod, ann, par, mc, ml, mb, rt, rn, oc_mt (oc_fi cb ob (-1) 16) ml mb ob n m, oc_mt (oc_fi oe ob (-1) 16) ml (fun _ => e) ob n m, upd org ob (ann n), co, cr, gn, ge, gd, gs)) :
    ∃ n158 : Nat, wY_step_158 post (nI n) e (nI ob) (nI NC) (nI TC) (nI tc) (nI nc) fail (nI (q + 1)) ret (nI us) (nI (ob + 1)) fu res n158 0 tm kY nk rcv bod ann par mc ml mb rt rn cb oe org co cr gn ge gd gs := by
  have vn : vp_in (nI n) 32 := vp_in_nI hn (by omega)
  have cn : (nI n).toNatClampNeg = n := nI_clamp (by omega)
  have fin : wY_step_279 post (nI n) (nI ob) (nI NC) (nI TC) (nI tc) (nI nc) fail (nI (q + 1)) ret (nI us) (nI (ob + 1)) fu res tm kY nk rcv bod ann par mc ml mb rt rn (oc_mt (oc_fi cb ob (-1) 16) ml mb ob n m) (oc_mt (oc_fi oe ob (-1) 16) ml (fun _ => e) ob n m) org co cr gn ge gd gs := by
    unfold wY_step_279
    refine ⟨vn, vp_in_nI hob (by omega), nm_e (nm_r (nI_pred q) ?_)⟩
    rw [cn, nI_clamp (n := ob) (by omega)]
    exact h
  have key2 : ∀ d i, i + d = m → ∀ f, d < f → wY_step_202 post (nI n) e (nI ob) (nI NC) (nI TC) (nI tc) (nI nc) fail (nI (q + 1)) ret (nI us) (nI (ob + 1)) fu res f (nI i) tm kY nk rcv bod ann par mc ml mb rt rn (oc_mt (oc_fi cb ob (-1) 16) ml mb ob n i) (oc_mt (oc_fi oe ob (-1) 16) ml (fun _ => e) ob n i) org co cr gn ge gd gs := by
    intro d
    induction d with
    | zero =>
      intro i hi f hf
      obtain ⟨g, rfl⟩ : ∃ g, f = g + 1 := ⟨f - 1, by omega⟩
      rw [show i = m by omega]
      refine br_c (fun _ => fin) (fun _ => ⟨vn, ?_⟩)
      rw [cn, hm]
      exact br_t (nI_le (Nat.le_refl _) (by omega)) fin
    | succ d ih =>
      intro i hi f hf
      obtain ⟨g, rfl⟩ : ∃ g, f = g + 1 := ⟨f - 1, by omega⟩
      obtain ⟨l, l1, l2⟩ := hl i (by omega)
      refine br_f (nI_ge (b := 8) (by omega) (by omega)) ⟨vn, ?_⟩
      rw [cn, hm]
      have v8 := oc_v8 hn (show i < 8 by omega)
      refine br_f (nI_ge (by omega) (by omega)) ⟨v8, ?_⟩
      rw [oc_k8 hn (by omega), l2]
      have v16 := oc_v16 hob l1
      refine nm_e ⟨v8, v16, nm_e ⟨v16, nm_e (nm_r (nI_1 i) ?_)⟩⟩
      have w := ih (i + 1) (by omega) g (by omega)
      unfold oc_mt at w
      rw [l2, nI_clamp (n := l) (by omega)] at w
      rw [oc_k16 hob l1]
      exact w
  have key : ∀ d l, l + d = 16 → wY_step_158 post (nI n) e (nI ob) (nI NC) (nI TC) (nI tc) (nI nc) fail (nI (q + 1)) ret (nI us) (nI (ob + 1)) fu res (d + 1) (nI l) tm kY nk rcv bod ann par mc ml mb rt rn (oc_fi cb ob (-1) l) (oc_fi oe ob (-1) l) org co cr gn ge gd gs := by
    intro d
    induction d with
    | zero =>
      intro l hl'
      rw [show l = 16 by omega]
      exact br_t (nI_le (a := 16) (by omega) (by omega)) ⟨m + 1, key2 m 0 (by omega) _ (by omega)⟩
    | succ d ih =>
      intro l hl'
      have v16 := oc_v16 hob (show l < 16 by omega)
      refine br_f (nI_ge (b := 16) (by omega) (by omega)) ⟨v16, nm_e ⟨v16, nm_e (nm_r (nI_1 l) ?_)⟩⟩
      rw [oc_k16 hob (by omega)]
      exact ih (l + 1) (by omega)
  exact ⟨17, key 16 0 rfl⟩
theorem oc_yud {NC TC tc nc us ob : Nat} {fail fu res : Int32} {tm kY nk rcv bod ann par mc ml mb rt rn cb oe org co cr gn ge gd gs : Nat → Int32} {post : Int32 → SY → Prop} {ret : Int32} {n l v q : Nat} {e : Int32} (hn : n < 32) (hob : ob < 32) (hv : v < ob) (hl : l < 16)
    (h : post (-1) (nI NC, nI TC, nI tc, nI nc, fail, nI q, nI ob, nI us, nI (ob + 1), fu, res, tm, kY, nk, rcv, bod, ann, par, mc, ml, mb, rt, rn, upd (oc_tc cb v ob 16) (ob * 16 + l) (bod n), upd (oc_tc oe v ob 16) (ob * 16 + l) e, upd org ob (ann n), co, cr, gn, ge, gd, gs)) :
    ∃ n526 : Nat, wY_step_526 post (nI n) e (nI v) (nI l) (nI ob) (nI NC) (nI TC) (nI tc) (nI nc) fail (nI (q + 1)) ret (nI us) (nI (ob + 1)) fu res n526 0 tm kY nk rcv bod ann par mc ml mb rt rn cb oe org co cr gn ge gd gs := by
  have vn : vp_in (nI n) 32 := vp_in_nI hn (by omega)
  have cn : (nI n).toNatClampNeg = n := nI_clamp (by omega)
  have key : ∀ d x, x + d = 16 → wY_step_526 post (nI n) e (nI v) (nI l) (nI ob) (nI NC) (nI TC) (nI tc) (nI nc) fail (nI (q + 1)) ret (nI us) (nI (ob + 1)) fu res (d + 1) (nI x) tm kY nk rcv bod ann par mc ml mb rt rn (oc_tc cb v ob x) (oc_tc oe v ob x) org co cr gn ge gd gs := by
    intro d
    induction d with
    | zero =>
      intro x hx
      rw [show x = 16 by omega]
      have v16 := oc_v16 hob hl
      refine br_t (nI_le (a := 16) (by omega) (by omega)) ⟨vn, v16, nm_e ⟨v16, nm_e ⟨vn, vp_in_nI hob (by omega), nm_e (nm_r (nI_pred q) ?_)⟩⟩⟩
      rw [cn, oc_k16 hob hl, nI_clamp (n := ob) (by omega)]
      exact h
    | succ d ih =>
      intro x hx
      have va := oc_v16 (a := v) (b := x) (by omega) (by omega)
      have vb := oc_v16 hob (show x < 16 by omega)
      refine br_f (nI_ge (b := 16) (by omega) (by omega)) ⟨va, vb, nm_e ⟨va, vb, nm_e (nm_r (nI_1 x) ?_)⟩⟩
      rw [oc_k16 hob (by omega), oc_k16 (a := v) (by omega) (by omega)]
      exact ih (x + 1) (by omega)
  exact ⟨17, key 16 0 rfl⟩
theorem oc_ys2 {NC TC tc nc us ob : Nat} {fail ret fu res : Int32} {tm kY nk rcv bod ann par mc ml mb rt rn cb oe org co cr gn ge gd gs : Nat → Int32} {post : Int32 → SY → Prop} {q : Nat} (hq : q < 64) (es : gs q = 2) (h : post (-1) (nI NC, nI TC, nI tc, nI nc, fail, nI q, ret, nI us, nI ob, fu, res, tm, kY, nk, rcv, bod, ann, par, mc, ml, mb, rt, rn, cb, oe, org, co, cr, gn, ge, gd, gs)) : wpY_step post (nI NC, nI TC, nI tc, nI nc, fail, nI (q + 1), ret, nI us, nI ob, fu, res, tm, kY, nk, rcv, bod, ann, par, mc, ml, mb, rt, rn, cb, oe, org, co, cr, gn, ge, gd, gs) := by
  have vq : vp_in (nI q) 64 := vp_in_nI hq (by omega)
  unfold wpY_step
  refine nm_r (nI_pred q) ⟨vq, ?_⟩
  rw [nI_clamp (n := q) (by omega)]
  exact nm_e ⟨vq, nm_e ⟨vq, nm_e ⟨vq, nm_r es (br_t rfl (nm_r (nI_pred q) h))⟩⟩⟩
theorem oc_ysd {NC TC tc nc us ob : Nat} {fail ret fu res : Int32} {tm kY nk rcv bod ann par mc ml mb rt rn cb oe org co cr gn ge gd gs : Nat → Int32} {post : Int32 → SY → Prop} {q : Nat} (hq : q < 64) (hq2 : 48 ≤ q) (es : gs q = 0) (ed : gd q = nI (q + 1)) (h : post 4 (nI NC, nI TC, nI tc, nI nc, fail, nI (q + 1), ret, nI us, nI ob, fu, res, tm, kY, nk, rcv, bod, ann, par, mc, ml, mb, rt, rn, cb, oe, org, co, cr, gn, ge, gd, gs)) : wpY_step post (nI NC, nI TC, nI tc, nI nc, fail, nI (q + 1), ret, nI us, nI ob, fu, res, tm, kY, nk, rcv, bod, ann, par, mc, ml, mb, rt, rn, cb, oe, org, co, cr, gn, ge, gd, gs) := by
  have vq : vp_in (nI q) 64 := vp_in_nI hq (by omega)
  unfold wpY_step
  refine nm_r (nI_pred q) ⟨vq, ?_⟩
  rw [nI_clamp (n := q) (by omega)]
  exact nm_e ⟨vq, nm_e ⟨vq, nm_r ed ⟨vq, nm_r es (br_f (by decide) (br_t rfl (br_f (nI_ge (a := 48) (b := q + 1) (by omega) (by omega)) h)))⟩⟩⟩
theorem oc_yv {NC TC tc nc us ob : Nat} {fail ret fu res : Int32} {tm kY nk rcv bod ann par mc ml mb rt rn cb oe org co cr gn ge gd gs : Nat → Int32} {post : Int32 → SY → Prop} {q n k o : Nat} (hq : q < 48) (hn : n < 32) (en : gn q = nI n) (es : gs q = 0) (ed : gd q = nI (q + 1)) (ek : kY n = 1) (el : nk n = nI k) (ho : o < 2 ^ 31)
    (hL : ∀ post : Int32 → Prop, post (nI o) → ∃ f, wY_lookup_5 post (nI k) (nI NC) (nI TC) (nI tc) (nI nc) fail (nI (q + 1)) ret (nI us) (nI ob) fu res tm kY nk rcv bod ann par mc ml mb rt rn cb oe org co cr gn ge gd gs f (ge q) 0) (h : post (-1) (nI NC, nI TC, nI tc, nI nc, fail, nI q, nI o, nI us, nI ob, fu, res, tm, kY, nk, rcv, bod, ann, par, mc, ml, mb, rt, rn, cb, oe, org, co, cr, gn, ge, gd, gs)) : wpY_step post (nI NC, nI TC, nI tc, nI nc, fail, nI (q + 1), ret, nI us, nI ob, fu, res, tm, kY, nk, rcv, bod, ann, par, mc, ml, mb, rt, rn, cb, oe, org, co, cr, gn, ge, gd, gs) := by
  have vq : vp_in (nI q) 64 := vp_in_nI (by omega) (by omega)
  have vn : vp_in (nI n) 32 := vp_in_nI hn (by omega)
  unfold wpY_step
  refine nm_r (nI_pred q) ⟨vq, ?_⟩
  rw [nI_clamp (n := q) (by omega), en]
  refine nm_e ⟨vq, nm_e ⟨vq, nm_r ed ⟨vq, nm_r es (br_f (by decide) (br_t rfl (br_t (nI_le (b := 48) (by omega) (by omega)) ⟨vn, ?_⟩)))⟩⟩⟩
  rw [nI_clamp (n := n) (by omega)]
  refine br_t ek ⟨vn, ?_⟩
  rw [el]
  exact hL _ (br_t (nI_pos' ho) (nm_r (nI_pred q) h))
theorem oc_yo {NC TC tc nc us ob : Nat} {fail ret fu res : Int32} {tm kY nk rcv bod ann par mc ml mb rt rn cb oe org co cr gn ge gd gs : Nat → Int32} {post : Int32 → SY → Prop} {q n : Nat} (hq : q < 48) (hn : n < 32) (en : gn q = nI n) (es : gs q = 0) (ed : gd q = nI (q + 1)) (ek : kY n = 2)
    (h5 : ob = 32 → post 5 (nI NC, nI TC, nI tc, nI nc, fail, nI (q + 1), ret, nI us, nI ob, fu, res, tm, kY, nk, rcv, bod, ann, par, mc, ml, mb, rt, rn, cb, oe, org, co, cr, gn, ge, gd, gs)) (h : ¬ ob = 32 → ∃ n158 : Nat, wY_step_158 post (nI n) (ge q) (nI ob) (nI NC) (nI TC) (nI tc) (nI nc) fail (nI (q + 1)) ret (nI us) (nI (ob + 1)) fu res n158 0 tm kY nk rcv bod ann par mc ml mb rt rn cb oe org co cr gn ge gd gs) (hob : ob ≤ 32) : wpY_step post (nI NC, nI TC, nI tc, nI nc, fail, nI (q + 1), ret, nI us, nI ob, fu, res, tm, kY, nk, rcv, bod, ann, par, mc, ml, mb, rt, rn, cb, oe, org, co, cr, gn, ge, gd, gs) := by
  have vq : vp_in (nI q) 64 := vp_in_nI (by omega) (by omega)
  have vn : vp_in (nI n) 32 := vp_in_nI hn (by omega)
  unfold wpY_step
  refine nm_r (nI_pred q) ⟨vq, ?_⟩
  rw [nI_clamp (n := q) (by omega), en]
  refine nm_e ⟨vq, nm_e ⟨vq, nm_r ed ⟨vq, nm_r es (br_f (by decide) (br_t rfl (br_t (nI_le (b := 48) (by omega) (by omega)) ⟨vn, ?_⟩)))⟩⟩⟩
  rw [nI_clamp (n := n) (by omega)]
  refine br_f (by rw [ek]; decide) ⟨vn, br_t ek (pk_eq ob 32 (fun e => h5 e) (fun e => nm_r (nI_1 ob) (h e)))⟩
theorem oc_yp {NC TC tc nc us ob : Nat} {fail ret fu res : Int32} {tm kY nk rcv bod ann par mc ml mb rt rn cb oe org co cr gn ge gd gs : Nat → Int32} {post : Int32 → SY → Prop} {q n : Nat} (hq : q < 48) (hn : n < 32) (en : gn q = nI n) (es : gs q = 0) (ed : gd q = nI (q + 1)) (e1 : ¬ kY n = 1) (e2 : ¬ kY n = 2)
    (h : post (-1) (nI NC, nI TC, nI tc, nI nc, fail, nI (q + 2), ret, nI us, nI ob, fu, res, tm, kY, nk, rcv, bod, ann, par, mc, ml, mb, rt, rn, cb, oe, org, co, cr, upd gn (q + 1) (rcv n), upd ge (q + 1) (ge q), upd gd (q + 1) (nI (q + 2)), upd (upd gs q 1) (q + 1) 0)) : wpY_step post (nI NC, nI TC, nI tc, nI nc, fail, nI (q + 1), ret, nI us, nI ob, fu, res, tm, kY, nk, rcv, bod, ann, par, mc, ml, mb, rt, rn, cb, oe, org, co, cr, gn, ge, gd, gs) := by
  have vq : vp_in (nI q) 64 := vp_in_nI (by omega) (by omega)
  have vn : vp_in (nI n) 32 := vp_in_nI hn (by omega)
  unfold wpY_step
  refine nm_r (nI_pred q) ⟨vq, ?_⟩
  rw [nI_clamp (n := q) (by omega), en]
  refine nm_e ⟨vq, nm_e ⟨vq, nm_r ed ⟨vq, nm_r es (br_f (by decide) (br_t rfl (br_t (nI_le (b := 48) (by omega) (by omega)) ⟨vn, ?_⟩)))⟩⟩⟩
  rw [nI_clamp (n := n) (by omega)]
  refine br_f e1 ⟨vn, br_f e2 ⟨vq, nm_e ⟨vn, ?_⟩⟩⟩
  rw [nI_1]
  exact oc_yps (by omega) h
/-- the step of a frame whose receiver is there: z tells whether it has the label -/
theorem oc_y1 {NC TC tc nc us ob : Nat} {fail fu res : Int32} {tm kY nk rcv bod ann par mc ml mb rt rn cb oe org co cr gn ge gd gs : Nat → Int32} {post : Int32 → SY → Prop} {q n l v : Nat} (hq : q < 48) (hn : n < 32) (hv : v < 32) (hl : l < 16) (en : gn q = nI n) (es : gs q = 1) (ed : gd q = nI (q + 1)) (el : nk n = nI l)
    (h0 : cb (v * 16 + l) = -1 → wY_step_381 post (nI q) (nI n) (ge q) (nI (q + 1)) (nI v) (nI l) 0 (nI NC) (nI TC) (nI tc) (nI nc) fail (nI (q + 1)) (nI v) (nI us) (nI ob) fu res tm kY nk rcv bod ann par mc ml mb rt rn cb oe org co cr gn ge gd gs) (h1 : ¬ cb (v * 16 + l) = -1 → wY_step_381 post (nI q) (nI n) (ge q) (nI (q + 1)) (nI v) (nI l) 1 (nI NC) (nI TC) (nI tc) (nI nc) fail (nI (q + 1)) (nI v) (nI us) (nI ob) fu res tm kY nk rcv bod ann par mc ml mb rt rn cb oe org co cr gn ge gd gs) : wpY_step post (nI NC, nI TC, nI tc, nI nc, fail, nI (q + 1), nI v, nI us, nI ob, fu, res, tm, kY, nk, rcv, bod, ann, par, mc, ml, mb, rt, rn, cb, oe, org, co, cr, gn, ge, gd, gs) := by
  have vq : vp_in (nI q) 64 := vp_in_nI (by omega) (by omega)
  have vn : vp_in (nI n) 32 := vp_in_nI hn (by omega)
  unfold wpY_step
  refine nm_r (nI_pred q) ⟨vq, ?_⟩
  rw [nI_clamp (n := q) (by omega), en]
  refine nm_e ⟨vq, nm_e ⟨vq, nm_r ed ⟨vq, nm_r es (br_f (by decide) (br_f (by decide) ⟨vn, ?_⟩))⟩⟩⟩
  rw [nI_clamp (n := n) (by omega), el]
  refine nm_e (br_f (nI_pos (by omega)) (br_f (nI_ge (b := 32) hv (by omega)) ⟨oc_v16 hv hl, ?_⟩))
  rw [oc_k16 hv hl]
  exact br_c (fun z => h0 z) (fun z => h1 z)
theorem oc_y1s {NC TC tc nc us ob : Nat} {fail res : Int32} {tm kY nk rcv bod ann par mc ml mb rt rn cb oe org co cr gn ge gd gs : Nat → Int32} {post : Int32 → SY → Prop} {F q n l v : Nat} {e z : Int32} (hF : F ≤ 128) (hus : us ≤ F) (hq : q < 48) (hn : n < 32) (hv : v < 32) (hl : l < 16) (ek : kY n = 3)
    (h1 : z = 0 → post 1 (nI NC, nI TC, nI tc, nI nc, fail, nI (q + 1), nI v, nI us, nI ob, nI F, res, tm, kY, nk, rcv, bod, ann, par, mc, ml, mb, rt, rn, cb, oe, org, co, cr, gn, ge, gd, gs)) (h3 : ¬ z = 0 → us = F → post 3 (nI NC, nI TC, nI tc, nI nc, fail, nI (q + 1), nI v, nI us, nI ob, nI F, res, tm, kY, nk, rcv, bod, ann, par, mc, ml, mb, rt, rn, cb, oe, org, co, cr, gn, ge, gd, gs))
    (h : ¬ z = 0 → us < F → post (-1) (nI NC, nI TC, nI tc, nI nc, fail, nI (q + 2), nI v, nI (us + 1), nI ob, nI F, res, tm, kY, nk, rcv, bod, ann, par, mc, ml, mb, rt, rn, cb, oe, org, upd co us (nI v), upd cr us (oe (v * 16 + l)), upd gn (q + 1) (cb (v * 16 + l)), upd ge (q + 1) (nI us), upd gd (q + 1) (nI (q + 2)), upd (upd gs q 2) (q + 1) 0)) :
    wY_step_381 post (nI q) (nI n) e (nI (q + 1)) (nI v) (nI l) z (nI NC) (nI TC) (nI tc) (nI nc) fail (nI (q + 1)) (nI v) (nI us) (nI ob) (nI F) res tm kY nk rcv bod ann par mc ml mb rt rn cb oe org co cr gn ge gd gs := by
  have vq : vp_in (nI q) 64 := vp_in_nI (by omega) (by omega)
  have vn : vp_in (nI n) 32 := vp_in_nI hn (by omega)
  have v16 := oc_v16 hv hl
  unfold wY_step_381
  refine ⟨vn, ?_⟩
  rw [nI_clamp (n := n) (by omega)]
  refine br_t ek (br_c (fun z0 => h1 z0) (fun z0 => pk_eq us F (fun e => h3 z0 e) (fun e => nm_r (nI_1 us) ?_)))
  have vu : vp_in (nI us) 128 := vp_in_nI (by omega) (by omega)
  refine ⟨vu, nm_e ⟨v16, vu, nm_e ⟨vq, nm_e ⟨v16, ?_⟩⟩⟩⟩
  rw [nI_clamp (n := us) (by omega), nI_clamp (n := q) (by omega), oc_k16 hv hl, nI_1]
  exact oc_yps (by omega) (h z0 (by omega))
theorem oc_y1u {NC TC tc nc us ob : Nat} {fail fu res : Int32} {tm kY nk rcv bod ann par mc ml mb rt rn cb oe org co cr gn ge gd gs : Nat → Int32} {post : Int32 → SY → Prop} {q n l v : Nat} {e z : Int32} (hob : ob ≤ 32) (hq : q < 48) (hn : n < 32) (hv : v < ob) (hl : l < 16) (ek : ¬ kY n = 3)
    (h2 : z = 0 → post 2 (nI NC, nI TC, nI tc, nI nc, fail, nI (q + 1), nI v, nI us, nI ob, fu, res, tm, kY, nk, rcv, bod, ann, par, mc, ml, mb, rt, rn, cb, oe, org, co, cr, gn, ge, gd, gs)) (h5 : ¬ z = 0 → ob = 32 → post 5 (nI NC, nI TC, nI tc, nI nc, fail, nI (q + 1), nI v, nI us, nI ob, fu, res, tm, kY, nk, rcv, bod, ann, par, mc, ml, mb, rt, rn, cb, oe, org, co, cr, gn, ge, gd, gs))
    (h : ¬ z = 0 → ob < 32 → post (-1) (nI NC, nI TC, nI tc, nI nc, fail, nI q, nI ob, nI us, nI (ob + 1), fu, res, tm, kY, nk, rcv, bod, ann, par, mc, ml, mb, rt, rn, upd (oc_tc cb v ob 16) (ob * 16 + l) (bod n), upd (oc_tc oe v ob 16) (ob * 16 + l) e, upd org ob (ann n), co, cr, gn, ge, gd, gs)) :
    wY_step_381 post (nI q) (nI n) e (nI (q + 1)) (nI v) (nI l) z (nI NC) (nI TC) (nI tc) (nI nc) fail (nI (q + 1)) (nI v) (nI us) (nI ob) fu res tm kY nk rcv bod ann par mc ml mb rt rn cb oe org co cr gn ge gd gs := by
  have vn : vp_in (nI n) 32 := vp_in_nI hn (by omega)
  unfold wY_step_381
  refine ⟨vn, ?_⟩
  rw [nI_clamp (n := n) (by omega)]
  exact br_f ek (br_c (fun z0 => h2 z0) (fun z0 => pk_eq ob 32 (fun e => h5 z0 e) (fun e => nm_r (nI_1 ob) (oc_yud hn (by omega) hv hl (h z0 (by omega))))))
end
section
/-! X's invocation and update -/
theorem oc_xs0 {NC TC tc nc us ob : Nat} {fail res fl val : Int32} {tm mk kd par num ann rcv bod mc ml mb cd cb ce org co cr fn fe fp : Nat → Int32} {post : Int32 → SX → Prop} {q n : Nat} {e : Int32} (hq : q < 48) (hn : n < 32) (ep : fp q = 0)
    (h1 : q + 1 < 48 → post 0 (nI NC, nI TC, nI tc, nI nc, fail, res, fl, nI us, nI ob, nI (q + 2), val, tm, mk, kd, par, num, ann, rcv, bod, mc, ml, mb, cd, cb, ce, org, co, cr, upd fn (q + 1) (rcv n), upd fe (q + 1) e, upd (upd fp q 1) (q + 1) 0)) (h0 : ¬ q + 1 < 48 → post 4 (nI NC, nI TC, nI tc, nI nc, fail, res, fl, nI us, nI ob, nI (q + 1), val, tm, mk, kd, par, num, ann, rcv, bod, mc, ml, mb, cd, cb, ce, org, co, cr, fn, fe, upd fp q 1)) :
    wpX_advanceSelect post (nI NC, nI TC, nI tc, nI nc, fail, res, fl, nI us, nI ob, nI (q + 1), val, tm, mk, kd, par, num, ann, rcv, bod, mc, ml, mb, cd, cb, ce, org, co, cr, fn, fe, fp) (nI n) e (nI q) ∧ wpX_advanceUpdate post (nI NC, nI TC, nI tc, nI nc, fail, res, fl, nI us, nI ob, nI (q + 1), val, tm, mk, kd, par, num, ann, rcv, bod, mc, ml, mb, cd, cb, ce, org, co, cr, fn, fe, fp) (nI n) e (nI q) := by
  have vq : vp_in (nI q) 48 := vp_in_nI hq (by omega)
  have vn : vp_in (nI n) 32 := vp_in_nI hn (by omega)
  refine ⟨?_, ?_⟩
  · unfold wpX_advanceSelect
    refine ⟨vq, ?_⟩
    rw [nI_clamp (n := q) (by omega)]
    refine br_t ep ⟨vq, nm_e ⟨vn, ?_⟩⟩
    rw [nI_clamp (n := n) (by omega)]
    by_cases z : q + 1 < 48
    · exact oc_xen1 z (h1 z)
    · exact oc_xen0 (by omega) (by omega) (h0 z)
  · unfold wpX_advanceUpdate
    refine ⟨vq, ?_⟩
    rw [nI_clamp (n := q) (by omega)]
    refine br_t ep ⟨vq, nm_e ⟨vn, ?_⟩⟩
    rw [nI_clamp (n := n) (by omega)]
    by_cases z : q + 1 < 48
    · exact oc_xen1 z (h1 z)
    · exact oc_xen0 (by omega) (by omega) (h0 z)
theorem oc_xs2 {NC TC tc nc us ob : Nat} {fail res fl val : Int32} {tm mk kd par num ann rcv bod mc ml mb cd cb ce org co cr fn fe fp : Nat → Int32} {post : Int32 → SX → Prop} {q n : Nat} {e : Int32} (hq : q < 48) (ep : fp q = 2) (h : post 0 (nI NC, nI TC, nI tc, nI nc, fail, res, fl, nI us, nI ob, nI q, val, tm, mk, kd, par, num, ann, rcv, bod, mc, ml, mb, cd, cb, ce, org, co, cr, fn, fe, fp)) : wpX_advanceSelect post (nI NC, nI TC, nI tc, nI nc, fail, res, fl, nI us, nI ob, nI (q + 1), val, tm, mk, kd, par, num, ann, rcv, bod, mc, ml, mb, cd, cb, ce, org, co, cr, fn, fe, fp) (nI n) e (nI q) := by
  have vq : vp_in (nI q) 48 := vp_in_nI hq (by omega)
  unfold wpX_advanceSelect
  refine ⟨vq, ?_⟩
  rw [nI_clamp (n := q) (by omega)]
  exact br_f (by rw [ep]; decide) ⟨vq, br_t ep (oc_xlv h)⟩
theorem oc_xs1 {NC TC tc nc us ob : Nat} {fail res : Int32} {tm mk kd par num ann rcv bod mc ml mb cd cb ce org co cr fn fe fp : Nat → Int32} {post : Int32 → SX → Prop} {F q n l v : Nat} {e : Int32} (hF : F ≤ 128) (hus : us ≤ F) (hq : q < 48) (hn : n < 32) (hv : v < 32) (hl : l < 16) (ep : fp q = 1) (el : num n = nI l)
    (h1 : cb (v * 16 + l) = -1 → post 1 (nI NC, nI TC, nI tc, nI nc, fail, res, nI F, nI us, nI ob, nI (q + 1), nI v, tm, mk, kd, par, num, ann, rcv, bod, mc, ml, mb, cd, cb, ce, org, co, cr, fn, fe, fp)) (h3 : ¬ cb (v * 16 + l) = -1 → us = F → post 3 (nI NC, nI TC, nI tc, nI nc, fail, res, nI F, nI us, nI ob, nI (q + 1), nI v, tm, mk, kd, par, num, ann, rcv, bod, mc, ml, mb, cd, cb, ce, org, co, cr, fn, fe, fp))
    (h : ¬ cb (v * 16 + l) = -1 → us < F → q + 1 < 48 → post 0 (nI NC, nI TC, nI tc, nI nc, fail, res, nI F, nI (us + 1), nI ob, nI (q + 2), nI v, tm, mk, kd, par, num, ann, rcv, bod, mc, ml, mb, cd, cb, ce, org, upd co us (nI v), upd cr us (ce (v * 16 + l)), upd fn (q + 1) (cb (v * 16 + l)), upd fe (q + 1) (nI us), upd (upd fp q 2) (q + 1) 0))
    (h4 : ¬ cb (v * 16 + l) = -1 → us < F → ¬ q + 1 < 48 → post 4 (nI NC, nI TC, nI tc, nI nc, fail, res, nI F, nI (us + 1), nI ob, nI (q + 1), nI v, tm, mk, kd, par, num, ann, rcv, bod, mc, ml, mb, cd, cb, ce, org, upd co us (nI v), upd cr us (ce (v * 16 + l)), fn, fe, upd fp q 2)) :
    wpX_advanceSelect post (nI NC, nI TC, nI tc, nI nc, fail, res, nI F, nI us, nI ob, nI (q + 1), nI v, tm, mk, kd, par, num, ann, rcv, bod, mc, ml, mb, cd, cb, ce, org, co, cr, fn, fe, fp) (nI n) e (nI q) := by
  have vq : vp_in (nI q) 48 := vp_in_nI hq (by omega)
  have vn : vp_in (nI n) 32 := vp_in_nI hn (by omega)
  have v16 : vp_in (nI (v * 16 + l)) 512 := vp_in_nI (by omega) (by omega)
  have c16 : (nI (v * 16 + l)).toNatClampNeg = v * 16 + l := nI_clamp (by omega)
  unfold wpX_advanceSelect
  refine ⟨vq, ?_⟩
  rw [nI_clamp (n := q) (by omega)]
  refine br_f (by rw [ep]; decide) ⟨vq, br_f (by rw [ep]; decide) ⟨vn, ?_⟩⟩
  rw [nI_clamp (n := n) (by omega), el]
  refine nm_r (oc_i16 v l) ⟨v16, ?_⟩
  rw [c16]
  refine br_c (fun z => h1 z) (fun z => pk_lt us F (fun y => nm_r (nI_1 us) ?_) (fun y => h3 z (by omega)))
  have vu : vp_in (nI us) 128 := vp_in_nI (by omega) (by omega)
  refine ⟨vu, nm_e ⟨v16, vu, nm_e ⟨vq, nm_e ⟨v16, ?_⟩⟩⟩⟩
  rw [nI_clamp (n := us) (by omega)]
  by_cases w : q + 1 < 48
  · exact oc_xen1 w (h z y w)
  · exact oc_xen0 (by omega) (by omega) (h4 z y w)
theorem oc_xu1 {NC TC tc nc us ob : Nat} {fail res fl : Int32} {tm mk kd par num ann rcv bod mc ml mb cd cb ce org co cr fn fe fp : Nat → Int32} {post : Int32 → SX → Prop} {q n l v : Nat} {e : Int32} (hob : ob ≤ 32) (hq : q < 48) (hn : n < 32) (hv : v < ob) (hl : l < 16) (ep : fp q = 1) (el : num n = nI l)
    (h2 : cb (v * 16 + l) = -1 → post 2 (nI NC, nI TC, nI tc, nI nc, fail, res, fl, nI us, nI ob, nI (q + 1), nI v, tm, mk, kd, par, num, ann, rcv, bod, mc, ml, mb, cd, cb, ce, org, co, cr, fn, fe, fp)) (h5 : ¬ cb (v * 16 + l) = -1 → ob = 32 → post 5 (nI NC, nI TC, nI tc, nI nc, fail, res, fl, nI us, nI ob, nI (q + 1), nI v, tm, mk, kd, par, num, ann, rcv, bod, mc, ml, mb, cd, cb, ce, org, co, cr, fn, fe, fp))
    (h : ¬ cb (v * 16 + l) = -1 → ob < 32 → post 0 (nI NC, nI TC, nI tc, nI nc, fail, res, fl, nI us, nI (ob + 1), nI q, nI ob, tm, mk, kd, par, num, ann, rcv, bod, mc, ml, mb, cd, upd (oc_tc cb v ob 16) (ob * 16 + l) (bod n), upd (oc_tc ce v ob 16) (ob * 16 + l) e, upd org ob (ann n), co, cr, fn, fe, fp)) :
    wpX_advanceUpdate post (nI NC, nI TC, nI tc, nI nc, fail, res, fl, nI us, nI ob, nI (q + 1), nI v, tm, mk, kd, par, num, ann, rcv, bod, mc, ml, mb, cd, cb, ce, org, co, cr, fn, fe, fp) (nI n) e (nI q) := by
  have vq : vp_in (nI q) 48 := vp_in_nI hq (by omega)
  have vn : vp_in (nI n) 32 := vp_in_nI hn (by omega)
  unfold wpX_advanceUpdate
  refine ⟨vq, ?_⟩
  rw [nI_clamp (n := q) (by omega)]
  refine br_f (by rw [ep]; decide) ⟨vn, ?_⟩
  rw [nI_clamp (n := n) (by omega), el]
  refine ⟨oc_v16 (by omega) hl, ?_⟩
  rw [oc_k16 (by omega) hl]
  refine br_c (fun z => h2 z) (fun z => pk_lt ob 32 (fun y => nm_r (nI_1 ob) ⟨vn, vp_in_nI (by omega) (by omega), nm_e ?_⟩) (fun y => h5 z (by omega)))
  rw [nI_clamp (n := ob) (by omega)]
  exact oc_xud hn y hv hl el (h z y)
/-! the loop of Y's run -/
theorem oc_yrs {NC TC tc nc us ob : Nat} {fail ret fu res : Int32} {tm kY nk rcv bod ann par mc ml mb rt rn cb oe org co cr gn ge gd gs : Nat → Int32} {post : Int32 → SY → Prop} {q s g : Nat} (hq : q + 1 < 2 ^ 31) (hs : s < 65536) (h : wpY_step (fun r_109 u => match u with | (a0, a1, a2, a3, a4, a5, a6, a7, a8, a9, a10, b1, b2, b3, b4, b5, b6, b7, b8, b9, b10, b11, b12, b13, b14, b15, b16, b17, b18, b19, b20, b21) => wY_run_84 post g r_109 (nI (s + 1)) a0 a1 a2 a3 a4 a5 a6 a7 a8 a9 a10 b1 b2 b3 b4 b5 b6 b7 b8 b9 b10 b11 b12 b13 b14 b15 b16 b17 b18 b19 b20 b21) (nI NC, nI TC, nI tc, nI nc, fail, nI (q + 1), ret, nI us, nI ob, fu, res, tm, kY, nk, rcv, bod, ann, par, mc, ml, mb, rt, rn, cb, oe, org, co, cr, gn, ge, gd, gs)) :
    wY_run_84 post (g + 1) (-1) (nI s) (nI NC) (nI TC) (nI tc) (nI nc) fail (nI (q + 1)) ret (nI us) (nI ob) fu res tm kY nk rcv bod ann par mc ml mb rt rn cb oe org co cr gn ge gd gs := by
  refine br_f (nI_ge (b := 65536) hs (by omega)) (br_f (nI_nle (by omega) hq) (br_f (by decide) ?_))
  rw [nI_1]
  simp only [forall_eq]
  exact h
theorem oc_yre {NC TC tc nc us ob : Nat} {fail sp ret fu res : Int32} {tm kY nk rcv bod ann par mc ml mb rt rn cb oe org co cr gn ge gd gs : Nat → Int32} {post : Int32 → SY → Prop} {c g : Nat} {s : Int32} (hc : c < 2 ^ 31) (h : post (nI c) (nI NC, nI TC, nI tc, nI nc, fail, sp, ret, nI us, nI ob, fu, res, tm, kY, nk, rcv, bod, ann, par, mc, ml, mb, rt, rn, cb, oe, org, co, cr, gn, ge, gd, gs)) : wY_run_84 post (g + 1) (nI c) s (nI NC) (nI TC) (nI tc) (nI nc) fail sp ret (nI us) (nI ob) fu res tm kY nk rcv bod ann par mc ml mb rt rn cb oe org co cr gn ge gd gs := by
  have e : wY_run_113 post (nI c) (nI NC) (nI TC) (nI tc) (nI nc) fail sp ret (nI us) (nI ob) fu res tm kY nk rcv bod ann par mc ml mb rt rn cb oe org co cr gn ge gd gs := br_f (nI_pos hc) h
  exact br_c (fun _ => e) (fun _ => br_c (fun _ => e) (fun _ => br_t (nI_pos' hc) e))
end
section
/-! both machines make one step -/
theorem oc_step {NC TC tc nc us ob : Nat} {fail res val ret : Int32} {tm mk kd par num ann rcv bod mc ml mb cd cb ce org co cr fn fe fp kY nk rt rn oe gn ge gd gs : Nat → Int32} {r F q : Nat} (hc : nc ≤ 32) (htc : tc ≤ 32) (hF : F ≤ 128) (hr : r < nc) (N : oc_Nd nc tc kd par num ann rcv bod mc ml mb) (C : oc_Cl nc par kd num bod r) (hK : ∀ n, n < nc → kY n = kd n + 1 ∧ (¬ kd n = 1 → nk n = num n))
    (M : oc_MM nc r F par kd bod us ob (q + 1) val ret cb ce oe co cr fn fe fp gn ge gd gs) :
    (∃ (us' ob' fc' : Nat) (val' ret' : Int32) (cb' ce' oe' org' co' cr' fn' fe' fp' gn' ge' gd' gs' : Nat → Int32), oc_MM nc r F par kd bod us' ob' fc' val' ret' cb' ce' oe' co' cr' fn' fe' fp' gn' ge' gd' gs' ∧ oc_Ph F us' fc' fn' fp' < oc_Ph F us (q + 1) fn fp ∧
      (∀ post : Int32 → SX → Prop, post 0 (nI NC, nI TC, nI tc, nI nc, fail, res, nI F, nI us', nI ob', nI fc', val', tm, mk, kd, par, num, ann, rcv, bod, mc, ml, mb, cd, cb', ce', org', co', cr', fn', fe', fp') → wpX_advance post (nI NC, nI TC, nI tc, nI nc, fail, res, nI F, nI us, nI ob, nI (q + 1), val, tm, mk, kd, par, num, ann, rcv, bod, mc, ml, mb, cd, cb, ce, org, co, cr, fn, fe, fp)) ∧
      (∀ post : Int32 → SY → Prop, post (-1) (nI NC, nI TC, nI tc, nI nc, fail, nI fc', ret', nI us', nI ob', nI F, res, tm, kY, nk, rcv, bod, ann, par, mc, ml, mb, rt, rn, cb', oe', org', co', cr', gn', ge', gd', gs') → wpY_step post (nI NC, nI TC, nI tc, nI nc, fail, nI (q + 1), ret, nI us, nI ob, nI F, res, tm, kY, nk, rcv, bod, ann, par, mc, ml, mb, rt, rn, cb, oe, org, co, cr, gn, ge, gd, gs))) ∨
    (∃ (c us' : Nat) (sp' : Int32) (co' cr' fp' gn' ge' gd' gs' : Nat → Int32), 1 ≤ c ∧ c ≤ 5 ∧ us' ≤ F ∧
      (∀ post : Int32 → SX → Prop, post (nI c) (nI NC, nI TC, nI tc, nI nc, fail, res, nI F, nI us', nI ob, nI (q + 1), val, tm, mk, kd, par, num, ann, rcv, bod, mc, ml, mb, cd, cb, ce, org, co', cr', fn, fe, fp') → wpX_advance post (nI NC, nI TC, nI tc, nI nc, fail, res, nI F, nI us, nI ob, nI (q + 1), val, tm, mk, kd, par, num, ann, rcv, bod, mc, ml, mb, cd, cb, ce, org, co, cr, fn, fe, fp)) ∧
      (∀ (post : Int32 → SY → Prop) (g s : Nat), s + 2 ≤ 65536 → post (nI c) (nI NC, nI TC, nI tc, nI nc, fail, sp', ret, nI us', nI ob, nI F, res, tm, kY, nk, rcv, bod, ann, par, mc, ml, mb, rt, rn, cb, oe, org, co', cr', gn', ge', gd', gs') → wY_run_84 post (g + 3) (-1) (nI s) (nI NC) (nI TC) (nI tc) (nI nc) fail (nI (q + 1)) ret (nI us) (nI ob) (nI F) res tm kY nk rcv bod ann par mc ml mb rt rn cb oe org co cr gn ge gd gs)) := by
  have M0 := M
  obtain ⟨m1, m2, m3, mO, mF, mV⟩ := M
  obtain ⟨n, w1, w2, w3, w4, w5, w6, w7, w8, w9⟩ := mF q (by omega)
  have hq : q < 48 := by omega
  have hn32 : n < 32 := by omega
  have kk := oc_ky N hK w1
  have hNn := N n w1
  -- a stop of both sides at once
  have stop : ∀ c : Nat, 1 ≤ c → c ≤ 5 → (∀ post : Int32 → SX → Prop, post (nI c) (nI NC, nI TC, nI tc, nI nc, fail, res, nI F, nI us, nI ob, nI (q + 1), val, tm, mk, kd, par, num, ann, rcv, bod, mc, ml, mb, cd, cb, ce, org, co, cr, fn, fe, fp) → wpX_advance post (nI NC, nI TC, nI tc, nI nc, fail, res, nI F, nI us, nI ob, nI (q + 1), val, tm, mk, kd, par, num, ann, rcv, bod, mc, ml, mb, cd, cb, ce, org, co, cr, fn, fe, fp)) → (∀ post : Int32 → SY → Prop, post (nI c) (nI NC, nI TC, nI tc, nI nc, fail, nI (q + 1), ret, nI us, nI ob, nI F, res, tm, kY, nk, rcv, bod, ann, par, mc, ml, mb, rt, rn, cb, oe, org, co, cr, gn, ge, gd, gs) → wpY_step post (nI NC, nI TC, nI tc, nI nc, fail, nI (q + 1), ret, nI us, nI ob, nI F, res, tm, kY, nk, rcv, bod, ann, par, mc, ml, mb, rt, rn, cb, oe, org, co, cr, gn, ge, gd, gs)) →
      (∃ (c us' : Nat) (sp' : Int32) (co' cr' fp' gn' ge' gd' gs' : Nat → Int32), 1 ≤ c ∧ c ≤ 5 ∧ us' ≤ F ∧
      (∀ post : Int32 → SX → Prop, post (nI c) (nI NC, nI TC, nI tc, nI nc, fail, res, nI F, nI us', nI ob, nI (q + 1), val, tm, mk, kd, par, num, ann, rcv, bod, mc, ml, mb, cd, cb, ce, org, co', cr', fn, fe, fp') → wpX_advance post (nI NC, nI TC, nI tc, nI nc, fail, res, nI F, nI us, nI ob, nI (q + 1), val, tm, mk, kd, par, num, ann, rcv, bod, mc, ml, mb, cd, cb, ce, org, co, cr, fn, fe, fp)) ∧
      (∀ (post : Int32 → SY → Prop) (g s : Nat), s + 2 ≤ 65536 → post (nI c) (nI NC, nI TC, nI tc, nI nc, fail, sp', ret, nI us', nI ob, nI F, res, tm, kY, nk, rcv, bod, ann, par, mc, ml, mb, rt, rn, cb, oe, org, co', cr', gn', ge', gd', gs') → wY_run_84 post (g + 3) (-1) (nI s) (nI NC) (nI TC) (nI tc) (nI nc) fail (nI (q + 1)) ret (nI us) (nI ob) (nI F) res tm kY nk rcv bod ann par mc ml mb rt rn cb oe org co cr gn ge gd gs)) := fun c c1 c2 hX hY =>
    ⟨c, us, nI (q + 1), co, cr, fp, gn, ge, gd, gs, c1, c2, m1, hX, fun post g s hs h => oc_yrs (by omega) (by omega) (hY _ (oc_yre (by omega) h))⟩
  have par1 : ∀ c, c < n → par c = nI n → ¬ (kd n = 1 ∨ bod n = nI c) → c < nc ∧ oc_li par r c = true ∧ oc_dp par kd bod r c = oc_dp par kd bod r n := fun c c1 c2 c3 => by
    obtain ⟨k1, k2, k3⟩ := oc_kid (r := r) hc N w1 w2 c1 c2
    exact ⟨by omega, k1, k3 c3⟩
  -- a receiver is entered
  have recv : ∀ a, a < n → rcv n = nI a → par a = nI n → ¬ (kd n = 1 ∨ bod n = nI a) → (kd n = 2 ∨ kd n = 3) → fp q = 0 →
      (∃ (us' ob' fc' : Nat) (val' ret' : Int32) (cb' ce' oe' org' co' cr' fn' fe' fp' gn' ge' gd' gs' : Nat → Int32), oc_MM nc r F par kd bod us' ob' fc' val' ret' cb' ce' oe' co' cr' fn' fe' fp' gn' ge' gd' gs' ∧ oc_Ph F us' fc' fn' fp' < oc_Ph F us (q + 1) fn fp ∧
      (∀ post : Int32 → SX → Prop, post 0 (nI NC, nI TC, nI tc, nI nc, fail, res, nI F, nI us', nI ob', nI fc', val', tm, mk, kd, par, num, ann, rcv, bod, mc, ml, mb, cd, cb', ce', org', co', cr', fn', fe', fp') → wpX_advance post (nI NC, nI TC, nI tc, nI nc, fail, res, nI F, nI us, nI ob, nI (q + 1), val, tm, mk, kd, par, num, ann, rcv, bod, mc, ml, mb, cd, cb, ce, org, co, cr, fn, fe, fp)) ∧
      (∀ post : Int32 → SY → Prop, post (-1) (nI NC, nI TC, nI tc, nI nc, fail, nI fc', ret', nI us', nI ob', nI F, res, tm, kY, nk, rcv, bod, ann, par, mc, ml, mb, rt, rn, cb', oe', org', co', cr', gn', ge', gd', gs') → wpY_step post (nI NC, nI TC, nI tc, nI nc, fail, nI (q + 1), ret, nI us, nI ob, nI F, res, tm, kY, nk, rcv, bod, ann, par, mc, ml, mb, rt, rn, cb, oe, org, co, cr, gn, ge, gd, gs))) ∨
      (∃ (c us' : Nat) (sp' : Int32) (co' cr' fp' gn' ge' gd' gs' : Nat → Int32), 1 ≤ c ∧ c ≤ 5 ∧ us' ≤ F ∧
      (∀ post : Int32 → SX → Prop, post (nI c) (nI NC, nI TC, nI tc, nI nc, fail, res, nI F, nI us', nI ob, nI (q + 1), val, tm, mk, kd, par, num, ann, rcv, bod, mc, ml, mb, cd, cb, ce, org, co', cr', fn, fe, fp') → wpX_advance post (nI NC, nI TC, nI tc, nI nc, fail, res, nI F, nI us, nI ob, nI (q + 1), val, tm, mk, kd, par, num, ann, rcv, bod, mc, ml, mb, cd, cb, ce, org, co, cr, fn, fe, fp)) ∧
      (∀ (post : Int32 → SY → Prop) (g s : Nat), s + 2 ≤ 65536 → post (nI c) (nI NC, nI TC, nI tc, nI nc, fail, sp', ret, nI us', nI ob, nI F, res, tm, kY, nk, rcv, bod, ann, par, mc, ml, mb, rt, rn, cb, oe, org, co', cr', gn', ge', gd', gs') → wY_run_84 post (g + 3) (-1) (nI s) (nI NC) (nI TC) (nI tc) (nI nc) fail (nI (q + 1)) ret (nI us) (nI ob) (nI F) res tm kY nk rcv bod ann par mc ml mb rt rn cb oe org co cr gn ge gd gs)) := by
    intro a a1 a2 a3 a4 a5 a6
    obtain ⟨p1, p2, p3⟩ := par1 a a1 a3 a4
    have y1 : ¬ kY n = 1 := by
      rcases kk with ⟨x, y⟩ | ⟨x, y⟩ | ⟨x, y⟩ | ⟨x, y⟩ <;> rcases a5 with z | z <;> first | (rw [x] at z; exact absurd z (by decide)) | (rw [y]; decide)
    have y2 : ¬ kY n = 2 := by
      rcases kk with ⟨x, y⟩ | ⟨x, y⟩ | ⟨x, y⟩ | ⟨x, y⟩ <;> rcases a5 with z | z <;> first | (rw [x] at z; exact absurd z (by decide)) | (rw [y]; decide)
    have hX : ∀ post : Int32 → SX → Prop, (q + 1 < 48 → post 0 (nI NC, nI TC, nI tc, nI nc, fail, res, nI F, nI us, nI ob, nI (q + 2), val, tm, mk, kd, par, num, ann, rcv, bod, mc, ml, mb, cd, cb, ce, org, co, cr, upd fn (q + 1) (nI a), upd fe (q + 1) (fe q), upd (upd fp q 1) (q + 1) 0)) → (¬ q + 1 < 48 → post 4 (nI NC, nI TC, nI tc, nI nc, fail, res, nI F, nI us, nI ob, nI (q + 1), val, tm, mk, kd, par, num, ann, rcv, bod, mc, ml, mb, cd, cb, ce, org, co, cr, fn, fe, upd fp q 1)) → wpX_advance post (nI NC, nI TC, nI tc, nI nc, fail, res, nI F, nI us, nI ob, nI (q + 1), val, tm, mk, kd, par, num, ann, rcv, bod, mc, ml, mb, cd, cb, ce, org, co, cr, fn, fe, fp) := fun post h1 h0 => by
      rw [← a2] at h1
      have g := oc_xs0 (e := fe q) hq hn32 a6 h1 h0
      rcases a5 with z | z
      · exact oc_xa2 hq hn32 w3 z g.1
      · exact oc_xa3 hq hn32 w3 z g.2
    have hY : ∀ post : Int32 → SY → Prop, post (-1) (nI NC, nI TC, nI tc, nI nc, fail, nI (q + 2), ret, nI us, nI ob, nI F, res, tm, kY, nk, rcv, bod, ann, par, mc, ml, mb, rt, rn, cb, oe, org, co, cr, upd gn (q + 1) (nI a), upd ge (q + 1) (fe q), upd gd (q + 1) (nI (q + 2)), upd (upd gs q 1) (q + 1) 0) → wpY_step post (nI NC, nI TC, nI tc, nI nc, fail, nI (q + 1), ret, nI us, nI ob, nI F, res, tm, kY, nk, rcv, bod, ann, par, mc, ml, mb, rt, rn, cb, oe, org, co, cr, gn, ge, gd, gs) := fun post h => by
      refine oc_yp hq hn32 w4 (by rw [w8]; exact a6) w7 y1 y2 ?_
      rw [a2, w6]
      exact h
    by_cases z : q + 1 < 48
    · left
      refine ⟨us, ob, q + 2, val, ret, cb, ce, oe, org, co, cr, upd fn (q + 1) (nI a), upd fe (q + 1) (fe q), upd (upd fp q 1) (q + 1) 0, upd gn (q + 1) (nI a), upd ge (q + 1) (fe q), upd gd (q + 1) (nI (q + 2)), upd (upd gs q 1) (q + 1) 0, ?_, ?_, fun post h => hX post (fun _ => h) (fun w => absurd z w), hY⟩
      · exact oc_MM_push M0 hc z (Nat.le_refl _) m1 (fun _ _ => ⟨rfl, rfl⟩) w1 w3 (Or.inl ⟨rfl, a5⟩) p1 p2 (by rw [p3]; exact w5)
      · refine oc_Ph_push (by omega) ?_
        have e : oc_wt fn fp q = 3 * n + 3 := by
          unfold oc_wt
          rw [if_pos a6, w3, nI_clamp (by omega)]
        rw [e, if_neg (by decide), if_pos rfl]
        omega
    · right
      refine ⟨4, us, nI (q + 2), co, cr, upd fp q 1, upd gn (q + 1) (nI a), upd ge (q + 1) (fe q), upd gd (q + 1) (nI (q + 2)), upd (upd gs q 1) (q + 1) 0, by omega, by omega, m1, fun post h => hX post (fun w => absurd w z) (fun _ => h), fun post g s hs h => ?_⟩
      refine oc_yrs (by omega) (by omega) (hY _ ?_)
      refine oc_yrs (by omega) (by omega) (oc_ysd (q := q + 1) (by omega) (by omega) pk_us pk_us (oc_yre (c := 4) (by omega) h))
  obtain ⟨-, ⟨k1, -, k, hk, ek⟩ | ⟨k1, k2, -, m, x4, x5, x6, x7⟩ | ⟨k1, k2, ⟨l, hl, el⟩, a, x4, x5, x6⟩ | ⟨k1, ⟨l, hl, el⟩, -, a, b, x4, x5, x6, x7, x8, x9, x10⟩⟩ := hNn
  · -- a variable
    have f0 : fp q = 0 := by
      rcases w9 with ⟨y, -⟩ | ⟨-, y | y⟩ | ⟨-, y⟩
      · exact y
      · rw [k1] at y; exact absurd y (by decide)
      · rw [k1] at y; exact absurd y (by decide)
      · rw [k1] at y; exact absurd y (by decide)
    have ky : kY n = 1 := by rw [(hK n w1).1, k1]; decide
    have nk' : nk n = nI k := by rw [(hK n w1).2 (by rw [k1]; decide), ek]
    have hb := C n w1 k1
    rw [ek, nI_clamp (by omega)] at hb
    have hd := oc_bo_dp (oc_Nd_Pa N) hc n w1 k w2 hb
    have hE : oc_En co cr us ob (k + 1) (fe q) := by
      have g : ∀ d d' e, d ≤ d' → oc_En co cr us ob d' e → oc_En co cr us ob d e := by
        intro d
        induction d with
        | zero => intro d' e _ _; trivial
        | succ d ih =>
          intro d' e hdd hh
          obtain ⟨d'', rfl⟩ : ∃ d'', d' = d'' + 1 := ⟨d' - 1, by omega⟩
          obtain ⟨c, o, z1, z2, z3, z4, z5⟩ := hh
          exact ⟨c, o, z1, z2, z3, z4, ih d'' _ (by omega) z5⟩
      exact g _ _ _ (by omega) w5
    left
    obtain ⟨o, o1, o2, o3⟩ := oc_look (NC := NC) (TC := TC) (tc := tc) (nc := nc) (fail := fail) (res := res) (fl := nI F) (val := val) (sp := nI (q + 1)) (ret := ret) (fu := nI F) (tm := tm) (mk := mk) (kd := kd) (par := par) (ann := ann) (rcv := rcv) (bod := bod) (mc := mc) (ml := ml) (mb := mb) (cd := cd) (cb := cb) (ce := ce) (org := org) (fn := fn) (fe := fe) (fp := fp) (kY := kY) (nk := nk) (rt := rt) (rn := rn) (oe := oe) (gn := gn) (ge := ge) (gd := gd) (gs := gs) (q := q) (by omega) hn32 hk ek k 0 (fe q) (by omega) hE
    refine ⟨us, ob, q, nI o, nI o, cb, ce, oe, org, co, cr, fn, fe, fp, gn, ge, gd, gs, oc_MM_pop M0 (Nat.le_refl _) m2 mO o1, oc_Ph_pop, fun post h => ?_, fun post h => ?_⟩
    · exact oc_xa0 hq hn32 w3 k1 ⟨k + 1, o2 post h⟩
    · exact oc_yv hq hn32 w4 (by rw [w8]; exact f0) w7 ky nk' (by omega) (fun post' h' => ⟨k + 1, by rw [w6]; exact o3 post' h'⟩) h
  · -- a literal
    have f0 : fp q = 0 := by
      rcases w9 with ⟨y, -⟩ | ⟨-, y | y⟩ | ⟨-, y⟩
      · exact y
      · rw [k1] at y; exact absurd y (by decide)
      · rw [k1] at y; exact absurd y (by decide)
      · rw [k1] at y; exact absurd y (by decide)
    have ky : kY n = 2 := by rw [(hK n w1).1, k1]; decide
    have hl : ∀ i, i < m → ∃ l, l < 16 ∧ ml (n * 8 + i) = nI l := fun i hi => by
      obtain ⟨l, b, y1, y2, -⟩ := x6 i hi
      exact ⟨l, y1, y2⟩
    by_cases z : ob = 32
    · right
      refine stop 5 (by omega) (by omega) (fun post h => oc_xa1 hq hn32 w3 k1 ?_) (fun post h => oc_yo hq hn32 w4 (by rw [w8]; exact f0) w7 ky (fun _ => h) (fun y => absurd z y) m2)
      unfold wpX_advanceObject
      exact br_f (nI_nlt (b := 32) (by omega) (by omega)) h
    · left
      refine ⟨us, ob + 1, q, nI ob, nI ob, oc_mt (oc_fi cb ob (-1) 16) ml mb ob n m, oc_mt ce ml (fun _ => fe q) ob n m, oc_mt (oc_fi oe ob (-1) 16) ml (fun _ => fe q) ob n m, upd org ob (ann n), co, cr, fn, fe, fp, gn, ge, gd, gs, oc_MM_pop M0 (by omega) (by omega) (oc_Ob_obj hc N w1 w2 k1 x5 x4 w5 mO) (by omega), oc_Ph_pop, fun post h => ?_, fun post h => ?_⟩
      · exact oc_xa1 hq hn32 w3 k1 (oc_xob hn32 (by omega) x5 x4 hl h)
      · refine oc_yo hq hn32 w4 (by rw [w8]; exact f0) w7 ky (fun y => absurd y z) (fun _ => oc_yob1 hn32 (by omega) x5 x4 hl ?_) m2
        rw [w6]
        exact h
  · -- an invocation
    have ky : kY n = 3 := by rw [(hK n w1).1, k1]; decide
    have nk' : nk n = nI l := by rw [(hK n w1).2 (by rw [k1]; decide), el]
    rcases w9 with ⟨f0, -⟩ | ⟨f1, -⟩ | ⟨f2, -⟩
    · refine recv a x4 x5 x6 (fun w => ?_) (Or.inl k1) f0
      rcases w with w | w
      · rw [k1] at w; exact absurd w (by decide)
      · rw [k2] at w; exact absurd w (oc_m1' (by omega))
    · obtain ⟨v, v1, rfl, rfl⟩ : ∃ o, o < ob ∧ val = nI o ∧ ret = nI o := by
        rcases mV with ⟨q', e1, e2⟩ | y
        · have : q' = q := by omega
          subst this
          rw [f1] at e2; exact absurd e2 (by decide)
        · exact y
      rcases mO v l v1 hl with z | ⟨b, d, z1, z2, z3, z4, z5, z6⟩
      · right
        refine stop 1 (by omega) (by omega) (fun post h => oc_xa2 hq hn32 w3 k1 ?_) (fun post h => ?_)
        · exact oc_xs1 hF m1 hq hn32 (by omega) hl f1 el (fun _ => h) (fun y => absurd z y) (fun y => absurd z y) (fun y => absurd z y)
        · exact oc_y1 hq hn32 (by omega) hl w4 (by rw [w8]; exact f1) w7 nk' (fun _ => oc_y1s hF m1 hq hn32 (by omega) hl ky (fun _ => h) (fun y => absurd rfl y) (fun y => absurd rfl y)) (fun y => absurd z y)
      have nz : ¬ cb (v * 16 + l) = -1 := by rw [z3]; exact oc_m1 (by omega)
      by_cases y : us = F
      · right
        refine stop 3 (by omega) (by omega) (fun post h => oc_xa2 hq hn32 w3 k1 ?_) (fun post h => ?_)
        · exact oc_xs1 hF m1 hq hn32 (by omega) hl f1 el (fun y' => absurd y' nz) (fun _ _ => h) (fun _ y' => by omega) (fun _ y' => by omega)
        · exact oc_y1 hq hn32 (by omega) hl w4 (by rw [w8]; exact f1) w7 nk' (fun y' => absurd y' nz) (fun _ => oc_y1s hF m1 hq hn32 (by omega) hl ky (fun y' => absurd y' oc_10) (fun _ _ => h) (fun _ y' => by omega))
      have usF : us < F := by omega
      have hX : ∀ post : Int32 → SX → Prop, (q + 1 < 48 → post 0 (nI NC, nI TC, nI tc, nI nc, fail, res, nI F, nI (us + 1), nI ob, nI (q + 2), nI v, tm, mk, kd, par, num, ann, rcv, bod, mc, ml, mb, cd, cb, ce, org, upd co us (nI v), upd cr us (ce (v * 16 + l)), upd fn (q + 1) (nI b), upd fe (q + 1) (nI us), upd (upd fp q 2) (q + 1) 0)) →
          (¬ q + 1 < 48 → post 4 (nI NC, nI TC, nI tc, nI nc, fail, res, nI F, nI (us + 1), nI ob, nI (q + 1), nI v, tm, mk, kd, par, num, ann, rcv, bod, mc, ml, mb, cd, cb, ce, org, upd co us (nI v), upd cr us (ce (v * 16 + l)), fn, fe, upd fp q 2)) → wpX_advance post (nI NC, nI TC, nI tc, nI nc, fail, res, nI F, nI us, nI ob, nI (q + 1), nI v, tm, mk, kd, par, num, ann, rcv, bod, mc, ml, mb, cd, cb, ce, org, co, cr, fn, fe, fp) := fun post h1 h0 => by
        rw [← z3] at h1
        exact oc_xa2 hq hn32 w3 k1 (oc_xs1 hF m1 hq hn32 (by omega) hl f1 el (fun y' => absurd y' nz) (fun _ y' => absurd y' y) (fun _ _ => h1) (fun _ _ => h0))
      have hY : ∀ post : Int32 → SY → Prop, post (-1) (nI NC, nI TC, nI tc, nI nc, fail, nI (q + 2), nI v, nI (us + 1), nI ob, nI F, res, tm, kY, nk, rcv, bod, ann, par, mc, ml, mb, rt, rn, cb, oe, org, upd co us (nI v), upd cr us (ce (v * 16 + l)), upd gn (q + 1) (nI b), upd ge (q + 1) (nI us), upd gd (q + 1) (nI (q + 2)), upd (upd gs q 2) (q + 1) 0) → wpY_step post (nI NC, nI TC, nI tc, nI nc, fail, nI (q + 1), nI v, nI us, nI ob, nI F, res, tm, kY, nk, rcv, bod, ann, par, mc, ml, mb, rt, rn, cb, oe, org, co, cr, gn, ge, gd, gs) := fun post h => by
        rw [← z3, ← z6] at h
        exact oc_y1 hq hn32 (by omega) hl w4 (by rw [w8]; exact f1) w7 nk' (fun y' => absurd y' nz) (fun _ => oc_y1s hF m1 hq hn32 (by omega) hl ky (fun y' => absurd y' oc_10) (fun _ y' => absurd y' y) (fun _ _ => h))
      by_cases z' : q + 1 < 48
      · left
        have agree : ∀ c, c < us → upd co us (nI v) c = co c ∧ upd cr us (ce (v * 16 + l)) c = cr c := fun c hc' => ⟨pk_un (by omega), pk_un (by omega)⟩
        refine ⟨us + 1, ob, q + 2, nI v, nI v, cb, ce, oe, org, upd co us (nI v), upd cr us (ce (v * 16 + l)), upd fn (q + 1) (nI b), upd fe (q + 1) (nI us), upd (upd fp q 2) (q + 1) 0, upd gn (q + 1) (nI b), upd ge (q + 1) (nI us), upd gd (q + 1) (nI (q + 2)), upd (upd gs q 2) (q + 1) 0, ?_, ?_, fun post h => hX post (fun _ => h) (fun w => absurd z' w), hY⟩
        · refine oc_MM_push M0 hc z' (by omega) (by omega) agree w1 w3 (Or.inr ⟨rfl, k1⟩) z1 z2 ?_
          rw [z4]
          refine ⟨us, v, by omega, rfl, v1, pk_us, ?_⟩
          rw [pk_us]
          exact oc_En_mo (by omega) (Nat.le_refl _) agree _ _ z5
        · refine oc_Ph_push (by omega) ?_
          have e : oc_wt fn fp q = 2 := by
            unfold oc_wt
            rw [if_neg (by rw [f1]; decide), if_pos f1]
          rw [e, if_neg (by decide), if_neg (by decide)]
          omega
      · right
        refine ⟨4, us + 1, nI (q + 2), upd co us (nI v), upd cr us (ce (v * 16 + l)), upd fp q 2, upd gn (q + 1) (nI b), upd ge (q + 1) (nI us), upd gd (q + 1) (nI (q + 2)), upd (upd gs q 2) (q + 1) 0, by omega, by omega, by omega, fun post h => hX post (fun w => absurd w z') (fun _ => h), fun post g s hs h => ?_⟩
        refine oc_yrs (by omega) (by omega) (hY _ ?_)
        refine oc_yrs (by omega) (by omega) (oc_ysd (q := q + 1) (by omega) (by omega) pk_us pk_us (oc_yre (c := 4) (by omega) h))
    · obtain ⟨v, v1, rfl, rfl⟩ : ∃ o, o < ob ∧ val = nI o ∧ ret = nI o := by
        rcases mV with ⟨q', e1, e2⟩ | y
        · have : q' = q := by omega
          subst this
          rw [f2] at e2; exact absurd e2 (by decide)
        · exact y
      left
      exact ⟨us, ob, q, nI v, nI v, cb, ce, oe, org, co, cr, fn, fe, fp, gn, ge, gd, gs, oc_MM_pop M0 (Nat.le_refl _) m2 mO v1, oc_Ph_pop, fun post h => oc_xa2 hq hn32 w3 k1 (oc_xs2 hq f2 h), fun post h => oc_ys2 (by omega) (by rw [w8]; exact f2) h⟩
  · -- an update
    have ky : ¬ kY n = 3 := by rw [(hK n w1).1, k1]; decide
    have nk' : nk n = nI l := by rw [(hK n w1).2 (by rw [k1]; decide), el]
    rcases w9 with ⟨f0, -⟩ | ⟨f1, -⟩ | ⟨f2, y⟩
    · refine recv a x4 x7 x9 (fun w => ?_) (Or.inr k1) f0
      rcases w with w | w
      · rw [k1] at w; exact absurd w (by decide)
      · rw [x8, nI_eq (by omega) (by omega)] at w; exact x6 w.symm
    · obtain ⟨v, v1, rfl, rfl⟩ : ∃ o, o < ob ∧ val = nI o ∧ ret = nI o := by
        rcases mV with ⟨q', e1, e2⟩ | y
        · have : q' = q := by omega
          subst this
          rw [f1] at e2; exact absurd e2 (by decide)
        · exact y
      by_cases z : cb (v * 16 + l) = -1
      · right
        refine stop 2 (by omega) (by omega) (fun post h => oc_xa3 hq hn32 w3 k1 ?_) (fun post h => ?_)
        · exact oc_xu1 m2 hq hn32 v1 hl f1 el (fun _ => h) (fun y => absurd z y) (fun y => absurd z y)
        · exact oc_y1 hq hn32 (by omega) hl w4 (by rw [w8]; exact f1) w7 nk' (fun _ => oc_y1u m2 hq hn32 v1 hl ky (fun _ => h) (fun y => absurd rfl y) (fun y => absurd rfl y)) (fun y => absurd z y)
      by_cases y : ob = 32
      · right
        refine stop 5 (by omega) (by omega) (fun post h => oc_xa3 hq hn32 w3 k1 ?_) (fun post h => ?_)
        · exact oc_xu1 m2 hq hn32 v1 hl f1 el (fun y' => absurd y' z) (fun _ _ => h) (fun _ y' => by omega)
        · exact oc_y1 hq hn32 (by omega) hl w4 (by rw [w8]; exact f1) w7 nk' (fun y' => absurd y' z) (fun _ => oc_y1u m2 hq hn32 v1 hl ky (fun y' => absurd y' oc_10) (fun _ _ => h) (fun _ y' => by omega))
      left
      refine ⟨us, ob + 1, q, nI ob, nI ob, upd (oc_tc cb v ob 16) (ob * 16 + l) (nI b), upd (oc_tc ce v ob 16) (ob * 16 + l) (fe q), upd (oc_tc oe v ob 16) (ob * 16 + l) (fe q), upd org ob (ann n), co, cr, fn, fe, fp, gn, ge, gd, gs, oc_MM_pop M0 (by omega) (by omega) (oc_Ob_upd hc N w1 w2 x5 x8 x10 v1 w5 mO) (by omega), oc_Ph_pop, fun post h => ?_, fun post h => ?_⟩
      · rw [← x8] at h
        exact oc_xa3 hq hn32 w3 k1 (oc_xu1 m2 hq hn32 v1 hl f1 el (fun y' => absurd y' z) (fun _ y' => absurd y' y) (fun _ _ => h))
      · rw [← x8, ← w6] at h
        exact oc_y1 hq hn32 (by omega) hl w4 (by rw [w8]; exact f1) w7 nk' (fun y' => absurd y' z) (fun _ => oc_y1u m2 hq hn32 v1 hl ky (fun y' => absurd y' oc_10) (fun _ y' => absurd y' y) (fun _ _ => h))
    · rw [k1] at y; exact absurd y (by decide)
end
section
/-! both runs in lockstep -/
theorem oc_lock {NC TC tc nc : Nat} {fail : Int32} {tm mk kd par num ann rcv bod mc ml mb cd kY nk rt rn : Nat → Int32} {r F : Nat} (hc : nc ≤ 32) (htc : tc ≤ 32) (hF : F ≤ 128) (hr : r < nc) (N : oc_Nd nc tc kd par num ann rcv bod mc ml mb) (C : oc_Cl nc par kd num bod r) (hK : ∀ n, n < nc → kY n = kd n + 1 ∧ (¬ kd n = 1 → nk n = num n)) :
    ∀ (P us ob fc : Nat) (val ret : Int32) (cb ce oe org co cr fn fe fp gn ge gd gs : Nat → Int32), oc_MM nc r F par kd bod us ob fc val ret cb ce oe co cr fn fe fp gn ge gd gs → oc_Ph F us fc fn fp ≤ P → ∀ sX sY, sX + P < 1000000 → sY + P + 2 < 65536 →
      ∃ (c us' ob' : Nat) (res' fc' val' sp' ret' : Int32) (cb' ce' oe' org' co' cr' fn' fe' fp' gn' ge' gd' gs' : Nat → Int32), us' ≤ 128 ∧ ob' ≤ 32 ∧ (res' = -1 ∨ ∃ o, o < ob' ∧ res' = nI o) ∧
        (∀ post : Int32 → SX → Prop, post (nI c) (nI NC, nI TC, nI tc, nI nc, fail, res', nI F, nI us', nI ob', fc', val', tm, mk, kd, par, num, ann, rcv, bod, mc, ml, mb, cd, cb', ce', org', co', cr', fn', fe', fp') → wX_evaluate_9 post (P + 2) 0 (nI sX) (nI NC) (nI TC) (nI tc) (nI nc) fail (-1) (nI F) (nI us) (nI ob) (nI fc) val tm mk kd par num ann rcv bod mc ml mb cd cb ce org co cr fn fe fp) ∧
        (∀ post : Int32 → SY → Prop, post (nI c) (nI NC, nI TC, nI tc, nI nc, fail, sp', ret', nI us', nI ob', nI F, res', tm, kY, nk, rcv, bod, ann, par, mc, ml, mb, rt, rn, cb', oe', org', co', cr', gn', ge', gd', gs') → wY_run_84 post (P + 4) (-1) (nI sY) (nI NC) (nI TC) (nI tc) (nI nc) fail (nI fc) ret (nI us) (nI ob) (nI F) (-1) tm kY nk rcv bod ann par mc ml mb rt rn cb oe org co cr gn ge gd gs) := by
  intro P
  induction P with
  | zero =>
    intro us ob fc val ret cb ce oe org co cr fn fe fp gn ge gd gs M hP sX sY h1 h2
    obtain ⟨m1, m2, m3, mO, mF, mV⟩ := M
    have f0 : fc = 0 := by
      cases fc with
      | zero => rfl
      | succ q =>
        have := oc_Ph_pop (F := F) (us := us) (q := q) (fn := fn) (fp := fp)
        omega
    subst f0
    obtain ⟨o, o1, rfl, rfl⟩ : ∃ o, o < ob ∧ val = nI o ∧ ret = nI o := by
      rcases mV with ⟨q', e1, e2⟩ | y
      · omega
      · exact y
    refine ⟨0, us, ob, nI o, nI 0, nI o, nI 0, nI o, cb, ce, oe, org, co, cr, fn, fe, fp, gn, ge, gd, gs, by omega, m2, Or.inr ⟨o, o1, rfl⟩, fun post h => ?_, fun post h => ?_⟩
    · exact br_f (nI_ge (b := 1000000) (by omega) (by omega)) (br_t rfl (br_t (by decide) (br_t rfl h)))
    · exact br_f (nI_ge (b := 65536) (by omega) (by omega)) (br_t (by decide) (br_t (by decide) (br_t (by decide) h)))
  | succ P ih =>
    intro us ob fc val ret cb ce oe org co cr fn fe fp gn ge gd gs M hP sX sY h1 h2
    cases fc with
    | zero =>
      obtain ⟨m1, m2, m3, mO, mF, mV⟩ := M
      obtain ⟨o, o1, rfl, rfl⟩ : ∃ o, o < ob ∧ val = nI o ∧ ret = nI o := by
        rcases mV with ⟨q', e1, e2⟩ | y
        · omega
        · exact y
      refine ⟨0, us, ob, nI o, nI 0, nI o, nI 0, nI o, cb, ce, oe, org, co, cr, fn, fe, fp, gn, ge, gd, gs, by omega, m2, Or.inr ⟨o, o1, rfl⟩, fun post h => ?_, fun post h => ?_⟩
      · exact br_f (nI_ge (b := 1000000) (by omega) (by omega)) (br_t rfl (br_t (by decide) (br_t rfl h)))
      · exact br_f (nI_ge (b := 65536) (by omega) (by omega)) (br_t (by decide) (br_t (by decide) (br_t (by decide) h)))
    | succ q =>
      have m1 := M.1
      have m2 := M.2.1
      have m3 := M.2.2.1
      have pX : ∀ post : Int32 → SX → Prop, wpX_advance (fun r_37 u => match u with | (a0, a1, a2, a3, a4, a5, a6, a7, a8, a9, a10, b1, b2, b3, b4, b5, b6, b7, b8, b9, b10, b11, b12, b13, b14, b15, b16, b17, b18, b19, b20) => wX_evaluate_9 post (P + 2) r_37 (nI (sX + 1)) a0 a1 a2 a3 a4 a5 a6 a7 a8 a9 a10 b1 b2 b3 b4 b5 b6 b7 b8 b9 b10 b11 b12 b13 b14 b15 b16 b17 b18 b19 b20) (nI NC, nI TC, nI tc, nI nc, fail, -1, nI F, nI us, nI ob, nI (q + 1), val, tm, mk, kd, par, num, ann, rcv, bod, mc, ml, mb, cd, cb, ce, org, co, cr, fn, fe, fp) → wX_evaluate_9 post (P + 1 + 2) 0 (nI sX) (nI NC) (nI TC) (nI tc) (nI nc) fail (-1) (nI F) (nI us) (nI ob) (nI (q + 1)) val tm mk kd par num ann rcv bod mc ml mb cd cb ce org co cr fn fe fp := fun post w => by
        refine br_f (nI_ge (b := 1000000) (by omega) (by omega)) (br_t rfl (br_f (nI_nle (by omega) (by omega)) ?_))
        rw [nI_1]
        simp only [forall_eq]
        exact w
      rcases oc_step (NC := NC) (TC := TC) (fail := fail) (res := -1) (tm := tm) (mk := mk) (cd := cd) (rt := rt) (rn := rn) (org := org) hc htc hF hr N C hK M with ⟨us', ob', fc', val', ret', cb', ce', oe', org', co', cr', fn', fe', fp', gn', ge', gd', gs', M', hP', hX, hY⟩ | ⟨c, us', sp', co', cr', fp', gn', ge', gd', gs', c1, c2, c3, hX, hY⟩
      · obtain ⟨c, us2, ob2, res2, fc2, val2, sp2, ret2, cb2, ce2, oe2, org2, co2, cr2, fn2, fe2, fp2, gn2, ge2, gd2, gs2, i1, i2, i3, iX, iY⟩ := ih us' ob' fc' val' ret' cb' ce' oe' org' co' cr' fn' fe' fp' gn' ge' gd' gs' M' (by omega) (sX + 1) (sY + 1) (by omega) (by omega)
        refine ⟨c, us2, ob2, res2, fc2, val2, sp2, ret2, cb2, ce2, oe2, org2, co2, cr2, fn2, fe2, fp2, gn2, ge2, gd2, gs2, i1, i2, i3, fun post h => ?_, fun post h => ?_⟩
        · exact pX post (hX _ (iX post h))
        · exact oc_yrs (by omega) (by omega) (hY _ (iY post h))
      · refine ⟨c, us', ob, -1, nI (q + 1), val, sp', ret, cb, ce, oe, org, co', cr', fn, fe, fp', gn', ge', gd', gs', by omega, m2, Or.inl rfl, fun post h => ?_, fun post h => ?_⟩
        · refine pX post (hX _ ?_)
          have nc0 : ¬ nI c = 0 := nI_ne0 (by omega) (by omega)
          have e : wX_evaluate_37 post (nI c) (nI NC) (nI TC) (nI tc) (nI nc) fail (-1) (nI F) (nI us') (nI ob) (nI (q + 1)) val tm mk kd par num ann rcv bod mc ml mb cd cb ce org co' cr' fn fe fp' := br_f nc0 h
          exact br_c (fun _ => e) (fun _ => br_f nc0 e)
        · exact hY post (P + 2) sY (by omega) h
theorem oc_cl0 (p : Int32) : ∃ F : Nat, F ≤ 128 ∧ ∀ G : Int32 → Prop, G (nI F) → (0 ≤ p → ((p ≤ 128 → G p) ∧ (¬ p ≤ 128 → G 128))) ∧ (¬ 0 ≤ p → G 0) := by
  by_cases a : 0 ≤ p
  · by_cases b : p ≤ 128
    · obtain ⟨c, hc, rfl⟩ := nI_of2 (M := 128) (n := 128) (by decide) (Int32.not_lt.mpr a) b
      exact ⟨c, hc, fun G h => br_t a (br_t b h)⟩
    · exact ⟨128, by omega, fun G h => br_t a (br_f b h)⟩
  · exact ⟨0, by omega, fun G h => br_f a h⟩
theorem i_vc_run {k : Nat} {u : SX} {v : SY} (I : i_Rel k u v) (hk : k + 5 ≤ 2562) (v1 : Int32) (v2 : Int32) : wpX_run (fun r u' => wpY_run (fun r' v' => r' = r ∧ i_Rel (k + 5) u' v') v v1 v2) u v1 v2 := by
  have J : i_Rel (k + 5) u v := I
  obtain ⟨NC, TC, tc, nc, us, ob, fail, res, fl, fc, val, sp, ret, fu, tm, mk, kd, par, num, ann, rcv, bod, mc, ml, mb, cd, cb, ce, org, co, cr, fn, fe, fp, kY, nk, rt, rn, oe, gn, ge, gd, gs, rfl, rfl, h1, h2, h3, h4, h5, h6, h7, hN, hT, hm, hK, hr⟩ := I
  unfold wpX_run
  rcases oc_ix v1 (n := nc) (by omega) with a | ⟨r, hr', rfl⟩
  · refine oc_xN0 a ?_
    unfold wpY_run
    exact oc_yN0 a ⟨rfl, J⟩
  refine oc_xN1 hr' (by omega) (oc_xcl (by omega) hr' hN (fun C => br_f oc_10 ?_) (fun C => br_t rfl ?_))
  · obtain ⟨F, hF, hG⟩ := oc_cl0 v2
    have M : oc_MM nc r F par kd bod 0 0 1 val (-1) cb ce oe co cr (upd fn 0 (nI r)) (upd fe 0 (-1)) (upd fp 0 0) (upd gn 0 (nI r)) (upd ge 0 (-1)) (upd gd 0 1) (upd gs 0 0) := by
      refine ⟨by omega, by omega, by omega, fun o l ho => absurd ho (Nat.not_lt_zero _), fun j hj => ?_, Or.inl ⟨0, rfl, pk_us⟩⟩
      have j0 : j = 0 := by omega
      subst j0
      refine ⟨r, hr', oc_li_r _ _, pk_us, pk_us, ?_, by rw [pk_us, pk_us], pk_us, by rw [pk_us, pk_us], Or.inl ⟨pk_us, rfl⟩⟩
      rw [oc_dp_r]
      trivial
    have hPh : oc_Ph F 0 1 (upd fn 0 (nI r)) (upd fp 0 0) ≤ 12384 := by
      unfold oc_Ph
      rw [oc_sm, oc_sm]
      unfold oc_wt
      rw [pk_us, pk_us, if_pos rfl, nI_clamp (by omega)]
      omega
    obtain ⟨c, us2, ob2, res2, fc2, val2, sp2, ret2, cb2, ce2, oe2, org2, co2, cr2, fn2, fe2, fp2, gn2, ge2, gd2, gs2, i1, i2, i3, iX, iY⟩ := oc_lock (NC := NC) (TC := TC) (fail := fail) (tm := tm) (mk := mk) (cd := cd) (rt := rt) (rn := rn) (show nc ≤ 32 by omega) (show tc ≤ 32 by omega) hF hr' hN C hK 12384 0 0 1 val (-1) cb ce oe org co cr _ _ _ _ _ _ _ M hPh 0 0 (by omega) (by omega)
    have cX : ∀ post : Int32 → Prop, post (nI F) → wpX_clamp post v2 0 128 := fun post h => hG post h
    refine cX _ ?_
    unfold wpX_evaluate
    refine oc_xen1 (q := 0) (by omega) ⟨12386, iX _ ?_⟩
    unfold wpY_run
    refine oc_yN1 hr' (by omega) (oc_ycl (by omega) (by omega) hr' hN hK (fun _ => br_f oc_10 ?_) (fun q => absurd C q))
    refine hG (fun z => wY_run_45 _ (nI r) z (nI NC) (nI TC) (nI tc) (nI nc) fail sp ret (nI us) (nI ob) fu res tm kY nk rcv bod ann par mc ml mb rt rn cb oe org co cr gn ge gd gs) ?_
    unfold wY_run_45
    refine oc_yps (q := 0) (by omega) ⟨12388, iY _ ⟨rfl, ?_⟩⟩
    exact oc_mk ⟨h1, h2, h3, h4, h5, i1, i2, hN, hT, hm, hK, i3⟩
  · unfold wpY_run
    exact oc_yN1 hr' (by omega) (oc_ycl (by omega) (by omega) hr' hN hK (fun q => absurd q C) (fun _ => br_t rfl ⟨rfl, J⟩))
end
