/-! own rows: ints below nought, stores -/
theorem oc_m1 {n : Nat} (h : n < 2 ^ 31) : ¬ nI n = -1 := fun e => by
  have h1 := congrArg Int32.toInt e
  have h2 : (-1 : Int32).toInt = -1 := by decide
  rw [nI_toInt h, h2] at h1
  omega
theorem oc_m1' {n : Nat} (h : n < 2 ^ 31) : ¬ (-1 : Int32) = nI n := fun e => oc_m1 h e.symm
theorem oc_c1 : (-1 : Int32).toNatClampNeg = 0 := by decide
theorem oc_m0 : (-1 : Int32) < 0 := by decide
theorem oc_uu (f : Nat → Int32) (k : Nat) (x y : Int32) : upd (upd f k x) k y = upd f k y := funext fun j => by
  by_cases h : j = k
  · rw [h, pk_us, pk_us]
  · rw [pk_un h, pk_un h, pk_un h]
theorem oc_ui (f : Nat → Int32) (k : Nat) {x : Int32} (e : f k = x) : upd f k x = f := funext fun j => by
  by_cases h : j = k
  · rw [h, pk_us, e]
  · rw [pk_un h]
theorem oc_uc (f : Nat → Int32) {k j : Nat} (x y : Int32) (h : k ≠ j) : upd (upd f k x) j y = upd (upd f j y) k x := funext fun i => by
  by_cases h1 : i = k
  · by_cases h2 : i = j
    · omega
    · rw [h1, pk_un h, pk_us, pk_us]
  · by_cases h2 : i = j
    · rw [pk_un h1, h2, pk_us, pk_us]
    · rw [pk_un h2, pk_un h1, pk_un h1, pk_un h2]
/-! sums -/
def oc_sm (f : Nat → Nat) : Nat → Nat
  | 0 => 0
  | n + 1 => oc_sm f n + f n
theorem oc_sm_le {f g : Nat → Nat} : ∀ N, (∀ i, i < N → f i ≤ g i) → oc_sm f N ≤ oc_sm g N
  | 0, _ => Nat.le_refl _
  | N + 1, h => Nat.add_le_add (oc_sm_le N fun i hi => h i (by omega)) (h N (by omega))
theorem oc_sm_cg {f g : Nat → Nat} : ∀ N, (∀ i, i < N → f i = g i) → oc_sm f N = oc_sm g N
  | 0, _ => rfl
  | N + 1, h => by rw [oc_sm, oc_sm, oc_sm_cg N fun i hi => h i (by omega), h N (by omega)]
theorem oc_sm_add (f g : Nat → Nat) : ∀ N, oc_sm (fun i => f i + g i) N = oc_sm f N + oc_sm g N
  | 0 => rfl
  | N + 1 => by rw [oc_sm, oc_sm, oc_sm, oc_sm_add f g N]; omega
theorem oc_sm_0 : ∀ N, oc_sm (fun _ => 0) N = 0
  | 0 => rfl
  | N + 1 => by rw [oc_sm, oc_sm_0 N]
theorem oc_sm_x (F : Nat → Nat → Nat) (N : Nat) : ∀ M, oc_sm (fun i => oc_sm (fun m => F i m) N) M = oc_sm (fun m => oc_sm (fun i => F i m) M) N
  | 0 => (oc_sm_0 N).symm
  | M + 1 => by
    rw [oc_sm, oc_sm_x F N M, ← oc_sm_add]
    rfl
theorem oc_sm_1 (f : Nat → Nat) {k : Nat} : ∀ N, k < N → f k ≤ oc_sm f N
  | 0, h => absurd h (Nat.not_lt_zero _)
  | N + 1, h => by
    rw [oc_sm]
    by_cases e : k = N
    · rw [e]; omega
    · have := oc_sm_1 f (k := k) N (by omega); omega
theorem oc_sm_z {f : Nat → Nat} (N : Nat) (h : ∀ i, i < N → f i = 0) : oc_sm f N = 0 := by
  rw [oc_sm_cg (g := fun _ => 0) N h, oc_sm_0]
theorem oc_sm_n {f : Nat → Nat} : ∀ N, (∀ i, i < N → f i ≤ 1) → oc_sm f N ≤ N
  | 0, _ => Nat.le_refl _
  | N + 1, h => Nat.add_le_add (oc_sm_n N fun i hi => h i (by omega)) (h N (by omega))
theorem oc_sm_u {f : Nat → Nat} : ∀ N, (∀ i, i < N → f i ≤ 1) → (∀ i j, i < N → j < N → f i = 1 → f j = 1 → i = j) → oc_sm f N ≤ 1
  | 0, _, _ => Nat.zero_le _
  | N + 1, h, u => by
    rw [oc_sm]
    have h1 := h N (by omega)
    by_cases e : f N = 1
    · rw [oc_sm_z N fun i hi => ?_]
      · omega
      · have a := h i (by omega)
        by_cases z : f i = 1
        · have := u i N (by omega) (by omega) z e; omega
        · omega
    · have := oc_sm_u N (fun i hi => h i (by omega)) (fun i j hi hj => u i j (by omega) (by omega))
      omega
/-! climbing by parents -/
def oc_li (par : Nat → Int32) (r n : Nat) : Bool :=
  if n = r then true
  else if h : n < (par n).toNatClampNeg ∧ (par n).toNatClampNeg < 32 then oc_li par r (par n).toNatClampNeg
  else false
termination_by 32 - n
decreasing_by omega
def oc_bo (par kd bod : Nat → Int32) (r n k : Nat) : Int :=
  if n = r then -1
  else if h : n < (par n).toNatClampNeg ∧ (par n).toNatClampNeg < 32 then
    (if kd (par n).toNatClampNeg = 1 ∨ bod (par n).toNatClampNeg = nI n then
      (if k = 0 then ((par n).toNatClampNeg : Int) else oc_bo par kd bod r (par n).toNatClampNeg (k - 1))
    else oc_bo par kd bod r (par n).toNatClampNeg k)
  else -2
termination_by 32 - n
decreasing_by all_goals omega
def oc_dp (par kd bod : Nat → Int32) (r n : Nat) : Nat :=
  if n = r then 0
  else if h : n < (par n).toNatClampNeg ∧ (par n).toNatClampNeg < 32 then
    (if kd (par n).toNatClampNeg = 1 ∨ bod (par n).toNatClampNeg = nI n then 1 else 0) + oc_dp par kd bod r (par n).toNatClampNeg
  else 0
termination_by 32 - n
decreasing_by omega
theorem oc_cl {par : Nat → Int32} {n p : Nat} (e : par n = nI p) (h2 : p < 32) : (par n).toNatClampNeg = p := by
  rw [e, nI_clamp (by omega)]
theorem oc_cl1 {par : Nat → Int32} {n : Nat} (e : par n = -1) : (par n).toNatClampNeg = 0 := by rw [e]; decide
theorem oc_li_r (par : Nat → Int32) (r : Nat) : oc_li par r r = true := by rw [oc_li, if_pos rfl]
theorem oc_li_s {par : Nat → Int32} {r n p : Nat} (e : par n = nI p) (h1 : n < p) (h2 : p < 32) (hr : n ≠ r) : oc_li par r n = oc_li par r p := by
  have c := oc_cl e h2
  rw [oc_li, if_neg hr, dif_pos (by rw [c]; exact ⟨h1, h2⟩), c]
theorem oc_li_n {par : Nat → Int32} {r n : Nat} (e : par n = -1) (hr : n ≠ r) : oc_li par r n = false := by
  have c := oc_cl1 e
  rw [oc_li, if_neg hr, dif_neg (by rw [c]; omega)]
theorem oc_bo_r (par kd bod : Nat → Int32) (r k : Nat) : oc_bo par kd bod r r k = -1 := by rw [oc_bo, if_pos rfl]
theorem oc_bo_n {par kd bod : Nat → Int32} {r n k : Nat} (e : par n = -1) (hr : n ≠ r) : oc_bo par kd bod r n k = -2 := by
  have c := oc_cl1 e
  rw [oc_bo, if_neg hr, dif_neg (by rw [c]; omega)]
theorem oc_bo_0 {par kd bod : Nat → Int32} {r n p : Nat} (e : par n = nI p) (h1 : n < p) (h2 : p < 32) (hr : n ≠ r) (b : kd p = 1 ∨ bod p = nI n) : oc_bo par kd bod r n 0 = (p : Int) := by
  have c := oc_cl e h2
  rw [oc_bo, if_neg hr, dif_pos (by rw [c]; exact ⟨h1, h2⟩), c, if_pos b, if_pos rfl]
theorem oc_bo_1 {par kd bod : Nat → Int32} {r n p k : Nat} (e : par n = nI p) (h1 : n < p) (h2 : p < 32) (hr : n ≠ r) (b : kd p = 1 ∨ bod p = nI n) : oc_bo par kd bod r n (k + 1) = oc_bo par kd bod r p k := by
  have c := oc_cl e h2
  rw [oc_bo, if_neg hr, dif_pos (by rw [c]; exact ⟨h1, h2⟩), c, if_pos b, if_neg (by omega), Nat.add_sub_cancel]
theorem oc_bo_2 {par kd bod : Nat → Int32} {r n p k : Nat} (e : par n = nI p) (h1 : n < p) (h2 : p < 32) (hr : n ≠ r) (b : ¬ (kd p = 1 ∨ bod p = nI n)) : oc_bo par kd bod r n k = oc_bo par kd bod r p k := by
  have c := oc_cl e h2
  rw [oc_bo, if_neg hr, dif_pos (by rw [c]; exact ⟨h1, h2⟩), c, if_neg b]
theorem oc_dp_1 {par kd bod : Nat → Int32} {r n p : Nat} (e : par n = nI p) (h1 : n < p) (h2 : p < 32) (hr : n ≠ r) (b : kd p = 1 ∨ bod p = nI n) : oc_dp par kd bod r n = oc_dp par kd bod r p + 1 := by
  have c := oc_cl e h2
  rw [oc_dp, if_neg hr, dif_pos (by rw [c]; exact ⟨h1, h2⟩), c, if_pos b, Nat.add_comm]
theorem oc_dp_2 {par kd bod : Nat → Int32} {r n p : Nat} (e : par n = nI p) (h1 : n < p) (h2 : p < 32) (hr : n ≠ r) (b : ¬ (kd p = 1 ∨ bod p = nI n)) : oc_dp par kd bod r n = oc_dp par kd bod r p := by
  have c := oc_cl e h2
  rw [oc_dp, if_neg hr, dif_pos (by rw [c]; exact ⟨h1, h2⟩), c, if_neg b, Nat.zero_add]
theorem oc_dp_r (par kd bod : Nat → Int32) (r : Nat) : oc_dp par kd bod r r = 0 := by rw [oc_dp, if_pos rfl]
def oc_Pa (par : Nat → Int32) (nc : Nat) : Prop := ∀ n, n < nc → par n = -1 ∨ ∃ p, n < p ∧ p < nc ∧ par n = nI p
theorem oc_up {nc : Nat} {P : Nat → Prop} (h : ∀ n, n < nc → (∀ m, n < m → m < nc → P m) → P n) : ∀ n, n < nc → P n := by
  have key : ∀ d n, n < nc → nc - n ≤ d → P n := by
    intro d
    induction d with
    | zero => intro n h1 h2; omega
    | succ d ih => intro n h1 h2; exact h n h1 fun m a b => ih m b (by omega)
  exact fun n hn => key (nc - n) n hn (Nat.le_refl _)
theorem oc_li_le {par : Nat → Int32} {nc r : Nat} (hP : oc_Pa par nc) (h32 : nc ≤ 32) : ∀ n, n < nc → oc_li par r n = true → n ≤ r := by
  refine oc_up fun n hn ih hl => ?_
  by_cases e : n = r
  · omega
  rcases hP n hn with h | ⟨p, h1, h2, h3⟩
  · rw [oc_li_n h e] at hl; exact absurd hl (by decide)
  · rw [oc_li_s h3 h1 (by omega) e] at hl
    have := ih p h1 h2 hl
    omega
theorem oc_li_c {par : Nat → Int32} {nc c n : Nat} (hP : oc_Pa par nc) (h32 : nc ≤ 32) (hn : n < nc) (hc : c < n) (e : par c = nI n) : ∀ m, m < nc → oc_li par c m = true → oc_li par n m = true := by
  refine oc_up fun m hm ih hl => ?_
  have le := oc_li_le hP h32 m hm hl
  by_cases z : m = c
  · subst z
    rw [oc_li_s e hc (by omega) (by omega)]
    exact oc_li_r _ _
  rcases hP m hm with h | ⟨p, h1, h2, h3⟩
  · rw [oc_li_n h z] at hl; exact absurd hl (by decide)
  · rw [oc_li_s h3 h1 (by omega) z] at hl
    rw [oc_li_s h3 h1 (by omega) (by omega)]
    exact ih p h1 h2 hl
theorem oc_li_d {par : Nat → Int32} {nc c c' n : Nat} (hP : oc_Pa par nc) (h32 : nc ≤ 32) (hn : n < nc) (hc : c < n) (e : par c = nI n) (hc' : c' < n) (e' : par c' = nI n) (ne : c ≠ c') : ∀ m, m < nc → oc_li par c m = true → oc_li par c' m = true → False := by
  refine oc_up fun m hm ih hl hl' => ?_
  by_cases z : m = c
  · subst z
    rw [oc_li_s e hc (by omega) ne] at hl'
    have := oc_li_le hP h32 n hn hl'
    omega
  by_cases z' : m = c'
  · subst z'
    rw [oc_li_s e' hc' (by omega) z] at hl
    have := oc_li_le hP h32 n hn hl
    omega
  rcases hP m hm with h | ⟨p, h1, h2, h3⟩
  · rw [oc_li_n h z] at hl; exact absurd hl (by decide)
  · rw [oc_li_s h3 h1 (by omega) z] at hl
    rw [oc_li_s h3 h1 (by omega) z'] at hl'
    exact ih p h1 h2 hl hl'
def oc_sz (par : Nat → Int32) (nc n : Nat) : Nat := oc_sm (fun m => if oc_li par n m = true then 1 else 0) nc
theorem oc_sz_n (par : Nat → Int32) (nc n : Nat) : oc_sz par nc n ≤ nc := oc_sm_n _ fun i _ => by
  split <;> omega
theorem oc_sz_c {par : Nat → Int32} {nc n : Nat} (hP : oc_Pa par nc) (h32 : nc ≤ 32) (hn : n < nc) (c : Nat → Nat) (M : Nat) (h1 : ∀ i, i < M → c i < n ∧ par (c i) = nI n) (h2 : ∀ i j, i < M → j < M → c i = c j → i = j) : oc_sm (fun i => oc_sz par nc (c i)) M + 1 ≤ oc_sz par nc n := by
  have a : oc_sm (fun i => oc_sz par nc (c i)) M = oc_sm (fun m => oc_sm (fun i => if oc_li par (c i) m = true then 1 else 0) M) nc := oc_sm_x (fun i m => if oc_li par (c i) m = true then 1 else 0) nc M
  have b : 1 ≤ oc_sm (fun m => if m = n then 1 else 0) nc := by
    have := oc_sm_1 (fun m => if m = n then 1 else 0) (k := n) nc hn
    rw [if_pos rfl] at this
    exact this
  have d : oc_sm (fun m => oc_sm (fun i => if oc_li par (c i) m = true then 1 else 0) M + (if m = n then 1 else 0)) nc ≤ oc_sz par nc n := by
    refine oc_sm_le nc fun m hm => ?_
    by_cases e : m = n
    · have z : oc_sm (fun i => if oc_li par (c i) m = true then 1 else 0) M = 0 := oc_sm_z M fun i hi => by
        by_cases w : oc_li par (c i) m = true
        · have := oc_li_le hP h32 m hm w
          have := (h1 i hi).1
          omega
        · exact if_neg w
      rw [z, if_pos e, e, if_pos (oc_li_r _ _)] <;> omega
    · rw [if_neg e]
      by_cases w : ∃ i, i < M ∧ oc_li par (c i) m = true
      · obtain ⟨i, hi, hl⟩ := w
        rw [if_pos (oc_li_c hP h32 hn (h1 i hi).1 (h1 i hi).2 m hm hl)]
        refine oc_sm_u M (fun i _ => ?_) (fun i j hi hj x y => ?_)
        · split <;> omega
        · have x' : oc_li par (c i) m = true := Decidable.byContradiction fun q => by rw [if_neg q] at x; omega
          have y' : oc_li par (c j) m = true := Decidable.byContradiction fun q => by rw [if_neg q] at y; omega
          exact Decidable.byContradiction fun ne => oc_li_d hP h32 hn (h1 i hi).1 (h1 i hi).2 (h1 j hj).1 (h1 j hj).2 (fun q => ne (h2 i j hi hj q)) m hm x' y'
      · have z : oc_sm (fun i => if oc_li par (c i) m = true then 1 else 0) M = 0 := oc_sm_z M fun i hi => if_neg fun q => w ⟨i, hi, q⟩
        rw [z]
        omega
  rw [oc_sm_add] at d
  omega
/-! the binder found by climbing, and the number of binders above -/
theorem oc_bo_li {par kd bod : Nat → Int32} {nc r : Nat} (hP : oc_Pa par nc) (h32 : nc ≤ 32) : ∀ n, n < nc → ∀ k, oc_bo par kd bod r n k = -1 → oc_li par r n = true := by
  refine oc_up fun n hn ih k hb => ?_
  by_cases e : n = r
  · subst e; exact oc_li_r _ _
  rcases hP n hn with h | ⟨p, h1, h2, h3⟩
  · rw [oc_bo_n h e] at hb; omega
  · rw [oc_li_s h3 h1 (by omega) e]
    by_cases b : kd p = 1 ∨ bod p = nI n
    · cases k with
      | zero => rw [oc_bo_0 h3 h1 (by omega) e b] at hb; omega
      | succ k => rw [oc_bo_1 h3 h1 (by omega) e b] at hb; exact ih p h1 h2 k hb
    · rw [oc_bo_2 h3 h1 (by omega) e b] at hb; exact ih p h1 h2 k hb
theorem oc_bo_m2 {par kd bod : Nat → Int32} {nc r : Nat} (hP : oc_Pa par nc) (h32 : nc ≤ 32) : ∀ n, n < nc → ∀ k, oc_li par r n = true → ¬ oc_bo par kd bod r n k = -2 := by
  refine oc_up fun n hn ih k hl hb => ?_
  by_cases e : n = r
  · subst e; rw [oc_bo_r] at hb; omega
  rcases hP n hn with h | ⟨p, h1, h2, h3⟩
  · rw [oc_li_n h e] at hl; exact absurd hl (by decide)
  · rw [oc_li_s h3 h1 (by omega) e] at hl
    by_cases b : kd p = 1 ∨ bod p = nI n
    · cases k with
      | zero => rw [oc_bo_0 h3 h1 (by omega) e b] at hb; omega
      | succ k => rw [oc_bo_1 h3 h1 (by omega) e b] at hb; exact ih p h1 h2 k hl hb
    · rw [oc_bo_2 h3 h1 (by omega) e b] at hb; exact ih p h1 h2 k hl hb
theorem oc_bo_dp {par kd bod : Nat → Int32} {nc r : Nat} (hP : oc_Pa par nc) (h32 : nc ≤ 32) : ∀ n, n < nc → ∀ k, oc_li par r n = true → ¬ oc_bo par kd bod r n k = -1 → k < oc_dp par kd bod r n := by
  refine oc_up fun n hn ih k hl hb => ?_
  by_cases e : n = r
  · subst e; exact absurd (oc_bo_r _ _ _ _ _) hb
  rcases hP n hn with h | ⟨p, h1, h2, h3⟩
  · rw [oc_li_n h e] at hl; exact absurd hl (by decide)
  · rw [oc_li_s h3 h1 (by omega) e] at hl
    by_cases b : kd p = 1 ∨ bod p = nI n
    · rw [oc_dp_1 h3 h1 (by omega) e b]
      cases k with
      | zero => omega
      | succ k =>
        rw [oc_bo_1 h3 h1 (by omega) e b] at hb
        have := ih p h1 h2 k hl hb
        omega
    · rw [oc_dp_2 h3 h1 (by omega) e b]
      rw [oc_bo_2 h3 h1 (by omega) e b] at hb
      exact ih p h1 h2 k hl hb
theorem oc_bo_3 {par kd bod : Nat → Int32} {nc r : Nat} (hP : oc_Pa par nc) (h32 : nc ≤ 32) : ∀ n, n < nc → ∀ k, oc_bo par kd bod r n k = -1 ∨ oc_bo par kd bod r n k = -2 ∨ ∃ p m : Nat, p < nc ∧ m < nc ∧ oc_bo par kd bod r n k = (p : Int) ∧ (kd p = 1 ∨ bod p = nI m) := by
  refine oc_up fun n hn ih k => ?_
  by_cases e : n = r
  · subst e; exact Or.inl (oc_bo_r _ _ _ _ _)
  rcases hP n hn with h | ⟨p, h1, h2, h3⟩
  · exact Or.inr (Or.inl (oc_bo_n h e))
  · by_cases b : kd p = 1 ∨ bod p = nI n
    · cases k with
      | zero => exact Or.inr (Or.inr ⟨p, n, h2, hn, oc_bo_0 h3 h1 (by omega) e b, b⟩)
      | succ k => rw [oc_bo_1 h3 h1 (by omega) e b]; exact ih p h1 h2 k
    · rw [oc_bo_2 h3 h1 (by omega) e b]; exact ih p h1 h2 k
