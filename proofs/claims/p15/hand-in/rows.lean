section
/-! own rows: ints below nought, stores -/
theorem oc_m1 {n : Nat} (h : n < 2 ^ 31) : ¬ nI n = -1 := fun e => by
  have h1 := congrArg Int32.toInt e
  have h2 : (-1 : Int32).toInt = -1 := by decide
  rw [nI_toInt h, h2] at h1
  omega
theorem oc_m1' {n : Nat} (h : n < 2 ^ 31) : ¬ (-1 : Int32) = nI n := fun e => oc_m1 h e.symm
theorem oc_c1 : (-1 : Int32).toNatClampNeg = 0 := by decide
theorem oc_m0 : (-1 : Int32) < 0 := by decide
theorem oc_uu (f : Nat → Int32) (k : Nat) (x y : Int32) : upd (upd f k x) k y = upd f k y := funext fun j => by
  by_cases h : j = k
  · rw [h, pk_us, pk_us]
  · rw [pk_un h, pk_un h, pk_un h]
theorem oc_ui (f : Nat → Int32) (k : Nat) {x : Int32} (e : f k = x) : upd f k x = f := funext fun j => by
  by_cases h : j = k
  · rw [h, pk_us, e]
  · rw [pk_un h]
theorem oc_uc (f : Nat → Int32) {k j : Nat} (x y : Int32) (h : k ≠ j) : upd (upd f k x) j y = upd (upd f j y) k x := funext fun i => by
  by_cases h1 : i = k
  · by_cases h2 : i = j
    · omega
    · rw [h1, pk_un h, pk_us, pk_us]
  · by_cases h2 : i = j
    · rw [pk_un h1, h2, pk_us, pk_us]
    · rw [pk_un h2, pk_un h1, pk_un h1, pk_un h2]
/-! sums -/
def oc_sm (f : Nat → Nat) : Nat → Nat
  | 0 => 0
  | n + 1 => oc_sm f n + f n
theorem oc_sm_le {f g : Nat → Nat} : ∀ N, (∀ i, i < N → f i ≤ g i) → oc_sm f N ≤ oc_sm g N
  | 0, _ => Nat.le_refl _
  | N + 1, h => Nat.add_le_add (oc_sm_le N fun i hi => h i (by omega)) (h N (by omega))
theorem oc_sm_cg {f g : Nat → Nat} : ∀ N, (∀ i, i < N → f i = g i) → oc_sm f N = oc_sm g N
  | 0, _ => rfl
  | N + 1, h => by rw [oc_sm, oc_sm, oc_sm_cg N fun i hi => h i (by omega), h N (by omega)]
theorem oc_sm_add (f g : Nat → Nat) : ∀ N, oc_sm (fun i => f i + g i) N = oc_sm f N + oc_sm g N
  | 0 => rfl
  | N + 1 => by rw [oc_sm, oc_sm, oc_sm, oc_sm_add f g N]; omega
theorem oc_sm_0 : ∀ N, oc_sm (fun _ => 0) N = 0
  | 0 => rfl
  | N + 1 => by rw [oc_sm, oc_sm_0 N]
theorem oc_sm_x (F : Nat → Nat → Nat) (N : Nat) : ∀ M, oc_sm (fun i => oc_sm (fun m => F i m) N) M = oc_sm (fun m => oc_sm (fun i => F i m) M) N
  | 0 => (oc_sm_0 N).symm
  | M + 1 => by
    rw [oc_sm, oc_sm_x F N M, ← oc_sm_add]
    rfl
theorem oc_sm_1 (f : Nat → Nat) {k : Nat} : ∀ N, k < N → f k ≤ oc_sm f N
  | 0, h => absurd h (Nat.not_lt_zero _)
  | N + 1, h => by
    rw [oc_sm]
    by_cases e : k = N
    · rw [e]; omega
    · have := oc_sm_1 f (k := k) N (by omega); omega
theorem oc_sm_z {f : Nat → Nat} (N : Nat) (h : ∀ i, i < N → f i = 0) : oc_sm f N = 0 := by
  rw [oc_sm_cg (g := fun _ => 0) N h, oc_sm_0]
theorem oc_sm_n {f : Nat → Nat} : ∀ N, (∀ i, i < N → f i ≤ 1) → oc_sm f N ≤ N
  | 0, _ => Nat.le_refl _
  | N + 1, h => Nat.add_le_add (oc_sm_n N fun i hi => h i (by omega)) (h N (by omega))
theorem oc_sm_u {f : Nat → Nat} : ∀ N, (∀ i, i < N → f i ≤ 1) → (∀ i j, i < N → j < N → f i = 1 → f j = 1 → i = j) → oc_sm f N ≤ 1
  | 0, _, _ => Nat.zero_le _
  | N + 1, h, u => by
    rw [oc_sm]
    have h1 := h N (by omega)
    by_cases e : f N = 1
    · rw [oc_sm_z N fun i hi => ?_]
      · omega
      · have a := h i (by omega)
        by_cases z : f i = 1
        · have := u i N (by omega) (by omega) z e; omega
        · omega
    · have := oc_sm_u N (fun i hi => h i (by omega)) (fun i j hi hj => u i j (by omega) (by omega))
      omega
/-! climbing by parents -/
def oc_li (par : Nat → Int32) (r n : Nat) : Bool :=
  if n = r then true
  else if h : n < (par n).toNatClampNeg ∧ (par n).toNatClampNeg < 32 then oc_li par r (par n).toNatClampNeg
  else false
termination_by 32 - n
decreasing_by omega
def oc_bo (par kd bod : Nat → Int32) (r n k : Nat) : Int :=
  if n = r then -1
  else if h : n < (par n).toNatClampNeg ∧ (par n).toNatClampNeg < 32 then
    (if kd (par n).toNatClampNeg = 1 ∨ bod (par n).toNatClampNeg = nI n then
      (if k = 0 then ((par n).toNatClampNeg : Int) else oc_bo par kd bod r (par n).toNatClampNeg (k - 1))
    else oc_bo par kd bod r (par n).toNatClampNeg k)
  else -2
termination_by 32 - n
decreasing_by all_goals omega
def oc_dp (par kd bod : Nat → Int32) (r n : Nat) : Nat :=
  if n = r then 0
  else if h : n < (par n).toNatClampNeg ∧ (par n).toNatClampNeg < 32 then
    (if kd (par n).toNatClampNeg = 1 ∨ bod (par n).toNatClampNeg = nI n then 1 else 0) + oc_dp par kd bod r (par n).toNatClampNeg
  else 0
termination_by 32 - n
decreasing_by omega
theorem oc_cl {par : Nat → Int32} {n p : Nat} (e : par n = nI p) (h2 : p < 32) : (par n).toNatClampNeg = p := by
  rw [e, nI_clamp (by omega)]
theorem oc_cl1 {par : Nat → Int32} {n : Nat} (e : par n = -1) : (par n).toNatClampNeg = 0 := by rw [e]; decide
theorem oc_li_r (par : Nat → Int32) (r : Nat) : oc_li par r r = true := by rw [oc_li, if_pos rfl]
theorem oc_li_s {par : Nat → Int32} {r n p : Nat} (e : par n = nI p) (h1 : n < p) (h2 : p < 32) (hr : n ≠ r) : oc_li par r n = oc_li par r p := by
  have c := oc_cl e h2
  rw [oc_li, if_neg hr, dif_pos (by rw [c]; exact ⟨h1, h2⟩), c]
theorem oc_li_n {par : Nat → Int32} {r n : Nat} (e : par n = -1) (hr : n ≠ r) : oc_li par r n = false := by
  have c := oc_cl1 e
  rw [oc_li, if_neg hr, dif_neg (by rw [c]; omega)]
theorem oc_bo_r (par kd bod : Nat → Int32) (r k : Nat) : oc_bo par kd bod r r k = -1 := by rw [oc_bo, if_pos rfl]
theorem oc_bo_n {par kd bod : Nat → Int32} {r n k : Nat} (e : par n = -1) (hr : n ≠ r) : oc_bo par kd bod r n k = -2 := by
  have c := oc_cl1 e
  rw [oc_bo, if_neg hr, dif_neg (by rw [c]; omega)]
theorem oc_bo_0 {par kd bod : Nat → Int32} {r n p : Nat} (e : par n = nI p) (h1 : n < p) (h2 : p < 32) (hr : n ≠ r) (b : kd p = 1 ∨ bod p = nI n) : oc_bo par kd bod r n 0 = (p : Int) := by
  have c := oc_cl e h2
  rw [oc_bo, if_neg hr, dif_pos (by rw [c]; exact ⟨h1, h2⟩), c, if_pos b, if_pos rfl]
theorem oc_bo_1 {par kd bod : Nat → Int32} {r n p k : Nat} (e : par n = nI p) (h1 : n < p) (h2 : p < 32) (hr : n ≠ r) (b : kd p = 1 ∨ bod p = nI n) : oc_bo par kd bod r n (k + 1) = oc_bo par kd bod r p k := by
  have c := oc_cl e h2
  rw [oc_bo, if_neg hr, dif_pos (by rw [c]; exact ⟨h1, h2⟩), c, if_pos b, if_neg (by omega), Nat.add_sub_cancel]
theorem oc_bo_2 {par kd bod : Nat → Int32} {r n p k : Nat} (e : par n = nI p) (h1 : n < p) (h2 : p < 32) (hr : n ≠ r) (b : ¬ (kd p = 1 ∨ bod p = nI n)) : oc_bo par kd bod r n k = oc_bo par kd bod r p k := by
  have c := oc_cl e h2
  rw [oc_bo, if_neg hr, dif_pos (by rw [c]; exact ⟨h1, h2⟩), c, if_neg b]
theorem oc_dp_1 {par kd bod : Nat → Int32} {r n p : Nat} (e : par n = nI p) (h1 : n < p) (h2 : p < 32) (hr : n ≠ r) (b : kd p = 1 ∨ bod p = nI n) : oc_dp par kd bod r n = oc_dp par kd bod r p + 1 := by
  have c := oc_cl e h2
  rw [oc_dp, if_neg hr, dif_pos (by rw [c]; exact ⟨h1, h2⟩), c, if_pos b, Nat.add_comm]
theorem oc_dp_2 {par kd bod : Nat → Int32} {r n p : Nat} (e : par n = nI p) (h1 : n < p) (h2 : p < 32) (hr : n ≠ r) (b : ¬ (kd p = 1 ∨ bod p = nI n)) : oc_dp par kd bod r n = oc_dp par kd bod r p := by
  have c := oc_cl e h2
  rw [oc_dp, if_neg hr, dif_pos (by rw [c]; exact ⟨h1, h2⟩), c, if_neg b, Nat.zero_add]
theorem oc_dp_r (par kd bod : Nat → Int32) (r : Nat) : oc_dp par kd bod r r = 0 := by rw [oc_dp, if_pos rfl]
def oc_Pa (par : Nat → Int32) (nc : Nat) : Prop := ∀ n, n < nc → par n = -1 ∨ ∃ p, n < p ∧ p < nc ∧ par n = nI p
theorem oc_up {nc : Nat} {P : Nat → Prop} (h : ∀ n, n < nc → (∀ m, n < m → m < nc → P m) → P n) : ∀ n, n < nc → P n := by
  have key : ∀ d n, n < nc → nc - n ≤ d → P n := by
    intro d
    induction d with
    | zero => intro n h1 h2; omega
    | succ d ih => intro n h1 h2; exact h n h1 fun m a b => ih m b (by omega)
  exact fun n hn => key (nc - n) n hn (Nat.le_refl _)
theorem oc_li_le {par : Nat → Int32} {nc r : Nat} (hP : oc_Pa par nc) (h32 : nc ≤ 32) : ∀ n, n < nc → oc_li par r n = true → n ≤ r := by
  refine oc_up fun n hn ih hl => ?_
  by_cases e : n = r
  · omega
  rcases hP n hn with h | ⟨p, h1, h2, h3⟩
  · rw [oc_li_n h e] at hl; exact absurd hl (by decide)
  · rw [oc_li_s h3 h1 (by omega) e] at hl
    have := ih p h1 h2 hl
    omega
theorem oc_li_c {par : Nat → Int32} {nc c n : Nat} (hP : oc_Pa par nc) (h32 : nc ≤ 32) (hn : n < nc) (hc : c < n) (e : par c = nI n) : ∀ m, m < nc → oc_li par c m = true → oc_li par n m = true := by
  refine oc_up fun m hm ih hl => ?_
  have le := oc_li_le hP h32 m hm hl
  by_cases z : m = c
  · subst z
    rw [oc_li_s e hc (by omega) (by omega)]
    exact oc_li_r _ _
  rcases hP m hm with h | ⟨p, h1, h2, h3⟩
  · rw [oc_li_n h z] at hl; exact absurd hl (by decide)
  · rw [oc_li_s h3 h1 (by omega) z] at hl
    rw [oc_li_s h3 h1 (by omega) (by omega)]
    exact ih p h1 h2 hl
theorem oc_li_d {par : Nat → Int32} {nc c c' n : Nat} (hP : oc_Pa par nc) (h32 : nc ≤ 32) (hn : n < nc) (hc : c < n) (e : par c = nI n) (hc' : c' < n) (e' : par c' = nI n) (ne : c ≠ c') : ∀ m, m < nc → oc_li par c m = true → oc_li par c' m = true → False := by
  refine oc_up fun m hm ih hl hl' => ?_
  by_cases z : m = c
  · subst z
    rw [oc_li_s e hc (by omega) ne] at hl'
    have := oc_li_le hP h32 n hn hl'
    omega
  by_cases z' : m = c'
  · subst z'
    rw [oc_li_s e' hc' (by omega) z] at hl
    have := oc_li_le hP h32 n hn hl
    omega
  rcases hP m hm with h | ⟨p, h1, h2, h3⟩
  · rw [oc_li_n h z] at hl; exact absurd hl (by decide)
  · rw [oc_li_s h3 h1 (by omega) z] at hl
    rw [oc_li_s h3 h1 (by omega) z'] at hl'
    exact ih p h1 h2 hl hl'
def oc_sz (par : Nat → Int32) (nc n : Nat) : Nat := oc_sm (fun m => if oc_li par n m = true then 1 else 0) nc
theorem oc_sz_n (par : Nat → Int32) (nc n : Nat) : oc_sz par nc n ≤ nc := oc_sm_n _ fun i _ => by
  split <;> omega
theorem oc_sz_c {par : Nat → Int32} {nc n : Nat} (hP : oc_Pa par nc) (h32 : nc ≤ 32) (hn : n < nc) (c : Nat → Nat) (M : Nat) (h1 : ∀ i, i < M → c i < n ∧ par (c i) = nI n) (h2 : ∀ i j, i < M → j < M → c i = c j → i = j) : oc_sm (fun i => oc_sz par nc (c i)) M + 1 ≤ oc_sz par nc n := by
  have a : oc_sm (fun i => oc_sz par nc (c i)) M = oc_sm (fun m => oc_sm (fun i => if oc_li par (c i) m = true then 1 else 0) M) nc := oc_sm_x (fun i m => if oc_li par (c i) m = true then 1 else 0) nc M
  have b : 1 ≤ oc_sm (fun m => if m = n then 1 else 0) nc := by
    have := oc_sm_1 (fun m => if m = n then 1 else 0) (k := n) nc hn
    rw [if_pos rfl] at this
    exact this
  have d : oc_sm (fun m => oc_sm (fun i => if oc_li par (c i) m = true then 1 else 0) M + (if m = n then 1 else 0)) nc ≤ oc_sz par nc n := by
    refine oc_sm_le nc fun m hm => ?_
    by_cases e : m = n
    · have z : oc_sm (fun i => if oc_li par (c i) m = true then 1 else 0) M = 0 := oc_sm_z M fun i hi => by
        by_cases w : oc_li par (c i) m = true
        · have := oc_li_le hP h32 m hm w
          have := (h1 i hi).1
          omega
        · exact if_neg w
      rw [z, if_pos e, e, if_pos (oc_li_r _ _)] <;> omega
    · rw [if_neg e]
      by_cases w : ∃ i, i < M ∧ oc_li par (c i) m = true
      · obtain ⟨i, hi, hl⟩ := w
        rw [if_pos (oc_li_c hP h32 hn (h1 i hi).1 (h1 i hi).2 m hm hl)]
        refine oc_sm_u M (fun i _ => ?_) (fun i j hi hj x y => ?_)
        · split <;> omega
        · have x' : oc_li par (c i) m = true := Decidable.byContradiction fun q => by rw [if_neg q] at x; omega
          have y' : oc_li par (c j) m = true := Decidable.byContradiction fun q => by rw [if_neg q] at y; omega
          exact Decidable.byContradiction fun ne => oc_li_d hP h32 hn (h1 i hi).1 (h1 i hi).2 (h1 j hj).1 (h1 j hj).2 (fun q => ne (h2 i j hi hj q)) m hm x' y'
      · have z : oc_sm (fun i => if oc_li par (c i) m = true then 1 else 0) M = 0 := oc_sm_z M fun i hi => if_neg fun q => w ⟨i, hi, q⟩
        rw [z]
        omega
  rw [oc_sm_add] at d
  omega
/-! the binder found by climbing, and the number of binders above -/
theorem oc_bo_li {par kd bod : Nat → Int32} {nc r : Nat} (hP : oc_Pa par nc) (h32 : nc ≤ 32) : ∀ n, n < nc → ∀ k, oc_bo par kd bod r n k = -1 → oc_li par r n = true := by
  refine oc_up fun n hn ih k hb => ?_
  by_cases e : n = r
  · subst e; exact oc_li_r _ _
  rcases hP n hn with h | ⟨p, h1, h2, h3⟩
  · rw [oc_bo_n h e] at hb; omega
  · rw [oc_li_s h3 h1 (by omega) e]
    by_cases b : kd p = 1 ∨ bod p = nI n
    · cases k with
      | zero => rw [oc_bo_0 h3 h1 (by omega) e b] at hb; omega
      | succ k => rw [oc_bo_1 h3 h1 (by omega) e b] at hb; exact ih p h1 h2 k hb
    · rw [oc_bo_2 h3 h1 (by omega) e b] at hb; exact ih p h1 h2 k hb
theorem oc_bo_m2 {par kd bod : Nat → Int32} {nc r : Nat} (hP : oc_Pa par nc) (h32 : nc ≤ 32) : ∀ n, n < nc → ∀ k, oc_li par r n = true → ¬ oc_bo par kd bod r n k = -2 := by
  refine oc_up fun n hn ih k hl hb => ?_
  by_cases e : n = r
  · subst e; rw [oc_bo_r] at hb; omega
  rcases hP n hn with h | ⟨p, h1, h2, h3⟩
  · rw [oc_li_n h e] at hl; exact absurd hl (by decide)
  · rw [oc_li_s h3 h1 (by omega) e] at hl
    by_cases b : kd p = 1 ∨ bod p = nI n
    · cases k with
      | zero => rw [oc_bo_0 h3 h1 (by omega) e b] at hb; omega
      | succ k => rw [oc_bo_1 h3 h1 (by omega) e b] at hb; exact ih p h1 h2 k hl hb
    · rw [oc_bo_2 h3 h1 (by omega) e b] at hb; exact ih p h1 h2 k hl hb
theorem oc_bo_dp {par kd bod : Nat → Int32} {nc r : Nat} (hP : oc_Pa par nc) (h32 : nc ≤ 32) : ∀ n, n < nc → ∀ k, oc_li par r n = true → ¬ oc_bo par kd bod r n k = -1 → k < oc_dp par kd bod r n := by
  refine oc_up fun n hn ih k hl hb => ?_
  by_cases e : n = r
  · subst e; exact absurd (oc_bo_r _ _ _ _ _) hb
  rcases hP n hn with h | ⟨p, h1, h2, h3⟩
  · rw [oc_li_n h e] at hl; exact absurd hl (by decide)
  · rw [oc_li_s h3 h1 (by omega) e] at hl
    by_cases b : kd p = 1 ∨ bod p = nI n
    · rw [oc_dp_1 h3 h1 (by omega) e b]
      cases k with
      | zero => omega
      | succ k =>
        rw [oc_bo_1 h3 h1 (by omega) e b] at hb
        have := ih p h1 h2 k hl hb
        omega
    · rw [oc_dp_2 h3 h1 (by omega) e b]
      rw [oc_bo_2 h3 h1 (by omega) e b] at hb
      exact ih p h1 h2 k hl hb
theorem oc_bo_3 {par kd bod : Nat → Int32} {nc r : Nat} (hP : oc_Pa par nc) (h32 : nc ≤ 32) : ∀ n, n < nc → ∀ k, oc_bo par kd bod r n k = -1 ∨ oc_bo par kd bod r n k = -2 ∨ ∃ p m : Nat, p < nc ∧ m < nc ∧ oc_bo par kd bod r n k = (p : Int) ∧ (kd p = 1 ∨ bod p = nI m) := by
  refine oc_up fun n hn ih k => ?_
  by_cases e : n = r
  · subst e; exact Or.inl (oc_bo_r _ _ _ _ _)
  rcases hP n hn with h | ⟨p, h1, h2, h3⟩
  · exact Or.inr (Or.inl (oc_bo_n h e))
  · by_cases b : kd p = 1 ∨ bod p = nI n
    · cases k with
      | zero => exact Or.inr (Or.inr ⟨p, n, h2, hn, oc_bo_0 h3 h1 (by omega) e b, b⟩)
      | succ k => rw [oc_bo_1 h3 h1 (by omega) e b]; exact ih p h1 h2 k
    · rw [oc_bo_2 h3 h1 (by omega) e b]; exact ih p h1 h2 k
end
section
/-! the invariant of nodes and types -/
def oc_Nc (nc tc : Nat) (kd par num ann rcv bod mc ml mb : Nat → Int32) (n : Nat) : Prop :=
  (par n = -1 ∨ ∃ p, n < p ∧ p < nc ∧ par n = nI p) ∧
  ((kd n = 0 ∧ bod n = -1 ∧ ∃ k, k < 16 ∧ num n = nI k) ∨
   (kd n = 1 ∧ bod n = -1 ∧ (∃ A, A < tc ∧ ann n = nI A) ∧ ∃ m, m ≤ 8 ∧ mc n = nI m ∧
      (∀ i, i < m → ∃ l b, l < 16 ∧ ml (n * 8 + i) = nI l ∧ b < n ∧ mb (n * 8 + i) = nI b ∧ par b = nI n) ∧
      (∀ i j, i < m → j < m → mb (n * 8 + i) = mb (n * 8 + j) → i = j)) ∨
   (kd n = 2 ∧ bod n = -1 ∧ (∃ l, l < 16 ∧ num n = nI l) ∧ ∃ a, a < n ∧ rcv n = nI a ∧ par a = nI n) ∨
   (kd n = 3 ∧ (∃ l, l < 16 ∧ num n = nI l) ∧ (∃ A, A < tc ∧ ann n = nI A) ∧
      ∃ a b, a < n ∧ b < n ∧ a ≠ b ∧ rcv n = nI a ∧ bod n = nI b ∧ par a = nI n ∧ par b = nI n))
def oc_Nd (nc tc : Nat) (kd par num ann rcv bod mc ml mb : Nat → Int32) : Prop :=
  ∀ n, n < nc → oc_Nc nc tc kd par num ann rcv bod mc ml mb n
theorem oc_Nd_Pa {nc tc : Nat} {kd par num ann rcv bod mc ml mb : Nat → Int32} (h : oc_Nd nc tc kd par num ann rcv bod mc ml mb) : oc_Pa par nc := fun n hn => (h n hn).1
theorem oc_Nd_tc {nc tc tc' : Nat} {kd par num ann rcv bod mc ml mb : Nat → Int32} (h : oc_Nd nc tc kd par num ann rcv bod mc ml mb) (ht : tc ≤ tc') : oc_Nd nc tc' kd par num ann rcv bod mc ml mb := fun n hn => by
  obtain ⟨h1, h2 | ⟨k1, k2, ⟨A, a1, a2⟩, k3⟩ | h2 | ⟨k1, k2, ⟨A, a1, a2⟩, k3⟩⟩ := h n hn
  · exact ⟨h1, Or.inl h2⟩
  · exact ⟨h1, Or.inr (Or.inl ⟨k1, k2, ⟨A, by omega, a2⟩, k3⟩)⟩
  · exact ⟨h1, Or.inr (Or.inr (Or.inl h2))⟩
  · exact ⟨h1, Or.inr (Or.inr (Or.inr ⟨k1, k2, ⟨A, by omega, a2⟩, k3⟩))⟩
theorem oc_Nd_new {nc tc : Nat} {kd par num ann rcv bod mc ml mb kd' par' num' ann' rcv' bod' : Nat → Int32} (hc : nc ≤ 32) (h : oc_Nd nc tc kd par num ann rcv bod mc ml mb)
    (e : ∀ n, n < nc → kd' n = kd n ∧ num' n = num n ∧ ann' n = ann n ∧ rcv' n = rcv n ∧ bod' n = bod n)
    (ep : ∀ n, n < nc → par' n = par n ∨ (par n = -1 ∧ par' n = nI nc))
    (hn : oc_Nc (nc + 1) tc kd' par' num' ann' rcv' bod' mc ml mb nc) : oc_Nd (nc + 1) tc kd' par' num' ann' rcv' bod' mc ml mb := fun n hlt => by
  by_cases z : n = nc
  · rw [z]; exact hn
  have hn' : n < nc := by omega
  obtain ⟨e1, e2, e3, e4, e5⟩ := e n hn'
  have pk : ∀ b, b < n → par b = nI n → par' b = nI n := fun b hb hp => by
    rcases ep b (by omega) with q | ⟨q, -⟩
    · rw [q, hp]
    · rw [q] at hp; exact absurd hp (oc_m1' (by omega))
  obtain ⟨h1, h2⟩ := h n hn'
  refine ⟨?_, ?_⟩
  · rcases ep n hn' with q | ⟨-, q⟩
    · rw [q]
      rcases h1 with w | ⟨p, w1, w2, w3⟩
      · exact Or.inl w
      · exact Or.inr ⟨p, w1, by omega, w3⟩
    · exact Or.inr ⟨nc, hn', by omega, q⟩
  · rw [e1, e2, e3, e4, e5]
    rcases h2 with w | ⟨w1, w2, w3, m, w4, w5, w6, w7⟩ | ⟨w1, w2, w3, a, w4, w5, w6⟩ | ⟨w1, w2, w3, a, b, w4, w5, w6, w7, w8, w9, w10⟩
    · exact Or.inl w
    · refine Or.inr (Or.inl ⟨w1, w2, w3, m, w4, w5, fun i hi => ?_, w7⟩)
      obtain ⟨l, b, x1, x2, x3, x4, x5⟩ := w6 i hi
      exact ⟨l, b, x1, x2, x3, x4, pk b x3 x5⟩
    · exact Or.inr (Or.inr (Or.inl ⟨w1, w2, w3, a, w4, w5, pk a w4 w6⟩))
    · exact Or.inr (Or.inr (Or.inr ⟨w1, w2, w3, a, b, w4, w5, w6, w7, w8, pk a w4 w9, pk b w5 w10⟩))
theorem oc_Nd_add {nc tc o b m l : Nat} {kd par num ann rcv bod mc ml mb : Nat → Int32} (hc : nc ≤ 32) (h : oc_Nd nc tc kd par num ann rcv bod mc ml mb)
    (ho : o < nc) (hk : kd o = 1) (hb : b < o) (hp : par b = -1) (hm : mc o = nI m) (hm8 : m < 8) (hl : l < 16) :
    oc_Nd nc tc kd (upd par b (nI o)) num ann rcv bod (upd mc o (nI (m + 1))) (upd ml (o * 8 + m) (nI l)) (upd mb (o * 8 + m) (nI b)) := fun n hn => by
  have pk : ∀ c q, q < nc → par c = nI q → upd par b (nI o) c = nI q := fun c q hq he => by
    by_cases z : c = b
    · rw [z, hp] at he; exact absurd he (oc_m1' (by omega))
    · rw [pk_un z, he]
  obtain ⟨h1, h2⟩ := h n hn
  refine ⟨?_, ?_⟩
  · by_cases z : n = b
    · exact Or.inr ⟨o, by omega, ho, by rw [z, pk_us]⟩
    · rw [pk_un z]; exact h1
  · rcases h2 with w | ⟨w1, w2, w3, m', w4, w5, w6, w7⟩ | ⟨w1, w2, w3, a, w4, w5, w6⟩ | ⟨w1, w2, w3, a, b', w4, w5, w6, w7, w8, w9, w10⟩
    · exact Or.inl w
    · refine Or.inr (Or.inl ⟨w1, w2, w3, ?_⟩)
      by_cases z : n = o
      · subst z
        have e : m' = m := by
          rw [hm] at w5
          exact ((nI_eq (by omega) (by omega)).mp w5).symm
        subst e
        have nb : ∀ i, i < m' → mb (n * 8 + i) ≠ nI b := fun i hi he => by
          obtain ⟨l', c, x1, x2, x3, x4, x5⟩ := w6 i hi
          rw [x4, nI_eq (by omega) (by omega)] at he
          rw [he, hp] at x5
          exact absurd x5 (oc_m1' (by omega))
        refine ⟨m' + 1, by omega, pk_us, fun i hi => ?_, fun i j hi hj he => ?_⟩
        · by_cases y : i = m'
          · rw [y]; exact ⟨l, b, hl, pk_us, hb, pk_us, pk_us⟩
          · obtain ⟨l', c, x1, x2, x3, x4, x5⟩ := w6 i (by omega)
            rw [pk_un (by omega), pk_un (by omega)]
            exact ⟨l', c, x1, x2, x3, x4, pk c n hn x5⟩
        · by_cases y : i = m'
          · by_cases y' : j = m'
            · omega
            · rw [y, pk_us, pk_un (by omega)] at he
              exact absurd he.symm (nb j (by omega))
          · by_cases y' : j = m'
            · rw [y', pk_us, pk_un (by omega)] at he
              exact absurd he (nb i (by omega))
            · rw [pk_un (by omega), pk_un (by omega)] at he
              exact w7 i j (by omega) (by omega) he
      · refine ⟨m', w4, by rw [pk_un z]; exact w5, fun i hi => ?_, fun i j hi hj he => ?_⟩
        · obtain ⟨l', c, x1, x2, x3, x4, x5⟩ := w6 i hi
          rw [pk_un (by omega), pk_un (by omega)]
          exact ⟨l', c, x1, x2, x3, x4, pk c n hn x5⟩
        · rw [pk_un (by omega), pk_un (by omega)] at he
          exact w7 i j hi hj he
    · exact Or.inr (Or.inr (Or.inl ⟨w1, w2, w3, a, w4, w5, pk a n hn w6⟩))
    · exact Or.inr (Or.inr (Or.inr ⟨w1, w2, w3, a, b', w4, w5, w6, w7, w8, pk a n hn w9, pk b' n hn w10⟩))
/-! types -/
def oc_lc (tm : Nat → Int32) (t : Nat) : Nat := oc_sm (fun l => if tm (t * 16 + l) = -1 then 0 else 1) 16
theorem oc_lc_16 (tm : Nat → Int32) (t : Nat) : oc_lc tm t ≤ 16 := oc_sm_n 16 fun l _ => by
  split <;> omega
def oc_Ty (tc : Nat) (tm mk : Nat → Int32) : Prop :=
  (∀ l, l < 16 → tm l = -1) ∧ ∀ t, t < tc → mk t = nI (oc_lc tm t) ∧ ∀ l, l < 16 → tm (t * 16 + l) = -1 ∨ ∃ m, m < tc ∧ tm (t * 16 + l) = nI m
/-- the row of type t copied to type n up to label l -/
def oc_tc (tm : Nat → Int32) (t n : Nat) : Nat → Nat → Int32
  | 0 => tm
  | l + 1 => upd (oc_tc tm t n l) (n * 16 + l) (oc_tc tm t n l (t * 16 + l))
theorem oc_tc_lo {tm : Nat → Int32} {t n : Nat} : ∀ l j, j < n * 16 → oc_tc tm t n l j = tm j
  | 0, _, _ => rfl
  | l + 1, j, h => by rw [oc_tc, pk_un (by omega), oc_tc_lo l j h]
theorem oc_tc_hi {tm : Nat → Int32} {t n : Nat} (h : t < n) : ∀ l j, j < l → l ≤ 16 → oc_tc tm t n l (n * 16 + j) = tm (t * 16 + j)
  | 0, _, h1, _ => absurd h1 (Nat.not_lt_zero _)
  | l + 1, j, h1, h2 => by
    rw [oc_tc]
    by_cases e : j = l
    · rw [e, pk_us, oc_tc_lo l _ (by omega)]
    · rw [pk_un (by omega)]
      exact oc_tc_hi h l j (by omega) (by omega)
theorem oc_sm_up {f g : Nat → Nat} {k : Nat} : ∀ N, k < N → (∀ i, i < N → i ≠ k → f i = g i) → f k = 0 → g k = 1 → oc_sm g N = oc_sm f N + 1
  | 0, h, _, _, _ => absurd h (Nat.not_lt_zero _)
  | N + 1, h, e, h0, h1 => by
    rw [oc_sm, oc_sm]
    by_cases z : k = N
    · subst z
      rw [h0, h1, oc_sm_cg (f := f) (g := g) k fun i hi => e i (by omega) (by omega)]
    · rw [oc_sm_up (f := f) N (by omega) (fun i hi ne => e i (by omega) ne) h0 h1, e N (by omega) (by omega)]
      omega
theorem oc_Ty_new {tc t l m : Nat} {tm mk : Nat → Int32} (h : oc_Ty tc tm mk) (h2 : 2 ≤ tc) (ht : t < tc) (hl : l < 16) (hm : m < tc) (hs : tc < 2 ^ 20) (e : tm (t * 16 + l) = -1) :
    oc_Ty (tc + 1) (upd (oc_tc tm t tc 16) (tc * 16 + l) (nI m)) (upd mk tc (nI (oc_lc tm t + 1))) := by
  have lo : ∀ j, j < tc * 16 → upd (oc_tc tm t tc 16) (tc * 16 + l) (nI m) j = tm j := fun j hj => by
    rw [pk_un (by omega), oc_tc_lo 16 j hj]
  have hi : ∀ j, j < 16 → j ≠ l → upd (oc_tc tm t tc 16) (tc * 16 + l) (nI m) (tc * 16 + j) = tm (t * 16 + j) := fun j hj ne => by
    rw [pk_un (by omega), oc_tc_hi ht 16 j hj (Nat.le_refl _)]
  refine ⟨fun j hj => by rw [lo j (by omega)]; exact h.1 j hj, fun q hq => ?_⟩
  by_cases z : q = tc
  · subst z
    refine ⟨?_, fun j hj => ?_⟩
    · rw [pk_us]
      refine congrArg nI (Eq.symm ?_)
      refine oc_sm_up (k := l) 16 hl (fun i hi' ne => ?_) (if_pos e) ?_
      · show (if tm (t * 16 + i) = -1 then 0 else 1) = (if upd (oc_tc tm t q 16) (q * 16 + l) (nI m) (q * 16 + i) = -1 then 0 else 1)
        rw [hi i hi' ne]
      · show (if upd (oc_tc tm t q 16) (q * 16 + l) (nI m) (q * 16 + l) = -1 then 0 else 1) = 1
        rw [pk_us, if_neg (oc_m1 (by omega))]
    · by_cases y : j = l
      · rw [y, pk_us]; exact Or.inr ⟨m, by omega, rfl⟩
      · rw [hi j hj y]
        rcases (h.2 t ht).2 j hj with w | ⟨m', w1, w2⟩
        · exact Or.inl w
        · exact Or.inr ⟨m', by omega, w2⟩
  · have hq' : q < tc := by omega
    refine ⟨?_, fun j hj => ?_⟩
    · rw [pk_un z, (h.2 q hq').1]
      refine congrArg nI ?_
      refine oc_sm_cg 16 fun i hi' => ?_
      rw [lo _ (by omega)]
    · rw [lo _ (by omega)]
      rcases (h.2 q hq').2 j hj with w | ⟨m', w1, w2⟩
      · exact Or.inl w
      · exact Or.inr ⟨m', by omega, w2⟩
def oc_sub (tm : Nat → Int32) (a b : Nat) : Prop := a = b ∨ b = 0 ∨ (¬ a = 0 ∧ ∀ l, l < 16 → tm (b * 16 + l) = -1 ∨ tm (a * 16 + l) = tm (b * 16 + l))
end
section
/-! the typing of one node from the table of its children's -/
def oc_OB (tm ml mb rt rn : Nat → Int32) (n A : Nat) (t e : Int32) : Nat → Nat → Prop
  | 0, _ => t = nI A ∧ e = -1
  | j + 1, i => (rt (mb (n * 8 + i)).toNatClampNeg < 0 → t = rt (mb (n * 8 + i)).toNatClampNeg ∧ e = rn (mb (n * 8 + i)).toNatClampNeg) ∧
      (¬ rt (mb (n * 8 + i)).toNatClampNeg < 0 →
        (oc_sub tm (rt (mb (n * 8 + i)).toNatClampNeg).toNatClampNeg (tm (A * 16 + (ml (n * 8 + i)).toNatClampNeg)).toNatClampNeg → oc_OB tm ml mb rt rn n A t e j (i + 1)) ∧
        (¬ oc_sub tm (rt (mb (n * 8 + i)).toNatClampNeg).toNatClampNeg (tm (A * 16 + (ml (n * 8 + i)).toNatClampNeg)).toNatClampNeg → t = -7 ∧ e = nI n))
def oc_LM (tm mc ml : Nat → Int32) (n A : Nat) : Prop := mc n = nI (oc_lc tm A) ∧ ∀ i, i < (mc n).toNatClampNeg → ¬ tm (A * 16 + (ml (n * 8 + i)).toNatClampNeg) = -1
def oc_LT (tm kd par num ann rcv bod mc ml mb : Nat → Int32) (r : Nat) (rt rn : Nat → Int32) (n : Nat) (t e : Int32) : Prop :=
  (kd n = 0 → (∀ p : Nat, oc_bo par kd bod r n (num n).toNatClampNeg = (p : Int) → t = ann p ∧ e = -1) ∧
      ((∀ p : Nat, ¬ oc_bo par kd bod r n (num n).toNatClampNeg = (p : Int)) → t = -2 ∧ e = nI n)) ∧
  (kd n = 1 → (ann n = 0 → t = -3 ∧ e = nI n) ∧ (¬ ann n = 0 →
      (¬ oc_LM tm mc ml n (ann n).toNatClampNeg → t = -5 ∧ e = nI n) ∧
      (oc_LM tm mc ml n (ann n).toNatClampNeg → oc_OB tm ml mb rt rn n (ann n).toNatClampNeg t e (mc n).toNatClampNeg 0))) ∧
  (kd n = 2 → (rt (rcv n).toNatClampNeg < 0 → t = rt (rcv n).toNatClampNeg ∧ e = rn (rcv n).toNatClampNeg) ∧ (¬ rt (rcv n).toNatClampNeg < 0 →
      (rt (rcv n).toNatClampNeg = 0 → t = -3 ∧ e = nI n) ∧ (¬ rt (rcv n).toNatClampNeg = 0 →
        (tm ((rt (rcv n).toNatClampNeg).toNatClampNeg * 16 + (num n).toNatClampNeg) = -1 → t = -4 ∧ e = nI n) ∧
        (¬ tm ((rt (rcv n).toNatClampNeg).toNatClampNeg * 16 + (num n).toNatClampNeg) = -1 → t = tm ((rt (rcv n).toNatClampNeg).toNatClampNeg * 16 + (num n).toNatClampNeg) ∧ e = -1)))) ∧
  (kd n = 3 → (rt (rcv n).toNatClampNeg < 0 → t = rt (rcv n).toNatClampNeg ∧ e = rn (rcv n).toNatClampNeg) ∧ (¬ rt (rcv n).toNatClampNeg < 0 →
      (ann n = 0 → t = -3 ∧ e = nI n) ∧ (¬ ann n = 0 →
        (tm ((ann n).toNatClampNeg * 16 + (num n).toNatClampNeg) = -1 → t = -4 ∧ e = nI n) ∧
        (¬ tm ((ann n).toNatClampNeg * 16 + (num n).toNatClampNeg) = -1 →
          (¬ oc_sub tm (rt (rcv n).toNatClampNeg).toNatClampNeg (ann n).toNatClampNeg → t = -6 ∧ e = nI n) ∧
          (oc_sub tm (rt (rcv n).toNatClampNeg).toNatClampNeg (ann n).toNatClampNeg →
            (rt (bod n).toNatClampNeg < 0 → t = rt (bod n).toNatClampNeg ∧ e = rn (bod n).toNatClampNeg) ∧ (¬ rt (bod n).toNatClampNeg < 0 →
              (¬ oc_sub tm (rt (bod n).toNatClampNeg).toNatClampNeg (tm ((ann n).toNatClampNeg * 16 + (num n).toNatClampNeg)).toNatClampNeg → t = -7 ∧ e = nI n) ∧
              (oc_sub tm (rt (bod n).toNatClampNeg).toNatClampNeg (tm ((ann n).toNatClampNeg * 16 + (num n).toNatClampNeg)).toNatClampNeg → t = ann n ∧ e = -1)))))))
def oc_Tab (tc : Nat) (tm kd par num ann rcv bod mc ml mb : Nat → Int32) (r : Nat) (rt rn : Nat → Int32) (N : Nat) : Prop :=
  ∀ n, n < N → oc_LT tm kd par num ann rcv bod mc ml mb r rt rn n (rt n) (rn n) ∧ (rt n < 0 ∨ ∃ t, t < tc ∧ rt n = nI t)
theorem oc_OB_cg {tm ml mb rt rn rt' rn' : Nat → Int32} {n A m : Nat} {t e : Int32} (h : ∀ i, i < m → rt' (mb (n * 8 + i)).toNatClampNeg = rt (mb (n * 8 + i)).toNatClampNeg ∧ rn' (mb (n * 8 + i)).toNatClampNeg = rn (mb (n * 8 + i)).toNatClampNeg) :
    ∀ j i, i + j = m → oc_OB tm ml mb rt rn n A t e j i → oc_OB tm ml mb rt' rn' n A t e j i
  | 0, _, _, q => q
  | j + 1, i, hm, q => by
    obtain ⟨e1, e2⟩ := h i (by omega)
    unfold oc_OB at q ⊢
    rw [e1, e2]
    exact ⟨q.1, fun z => ⟨fun w => oc_OB_cg h j (i + 1) (by omega) ((q.2 z).1 w), (q.2 z).2⟩⟩
theorem oc_LT_cg {nc tc : Nat} {tm kd par num ann rcv bod mc ml mb : Nat → Int32} {r : Nat} {rt rn rt' rn' : Nat → Int32} {n : Nat} {t e : Int32} (hc : nc ≤ 32) (hn : n < nc) (N : oc_Nc nc tc kd par num ann rcv bod mc ml mb n)
    (h : ∀ m, m < n → rt' m = rt m ∧ rn' m = rn m) (q : oc_LT tm kd par num ann rcv bod mc ml mb r rt rn n t e) : oc_LT tm kd par num ann rcv bod mc ml mb r rt' rn' n t e := by
  obtain ⟨-, ⟨k1, k2⟩ | ⟨k1, k2, k3, m, w4, w5, w6, w7⟩ | ⟨w1, w2, w3, a, w4, w5, w6⟩ | ⟨w1, w2, w3, a, b, w4, w5, w6, w7, w8, w9, w10⟩⟩ := N
  · refine ⟨q.1, fun z => ?_, fun z => ?_, fun z => ?_⟩ <;> (rw [k1] at z; exact absurd z (by decide))
  · refine ⟨fun z => ?_, fun z => ?_, fun z => ?_, fun z => ?_⟩
    · rw [k1] at z; exact absurd z (by decide)
    · have g := q.2.1 z
      refine ⟨g.1, fun y => ⟨(g.2 y).1, fun x => ?_⟩⟩
      have ec : (mc n).toNatClampNeg = m := by rw [w5, nI_clamp (by omega)]
      refine oc_OB_cg (m := m) (fun i hi => ?_) _ 0 (by rw [ec]; omega) ((g.2 y).2 x)
      obtain ⟨l, b, x1, x2, x3, x4, x5⟩ := w6 i hi
      rw [x4, nI_clamp (by omega)]
      exact h b x3
    · rw [k1] at z; exact absurd z (by decide)
    · rw [k1] at z; exact absurd z (by decide)
  · refine ⟨fun z => ?_, fun z => ?_, fun z => ?_, fun z => ?_⟩
    · rw [w1] at z; exact absurd z (by decide)
    · rw [w1] at z; exact absurd z (by decide)
    · have g := q.2.2.1 z
      rw [w5, nI_clamp (by omega)] at g ⊢
      rw [(h a w4).1, (h a w4).2]
      exact g
    · rw [w1] at z; exact absurd z (by decide)
  · refine ⟨fun z => ?_, fun z => ?_, fun z => ?_, fun z => ?_⟩
    · rw [w1] at z; exact absurd z (by decide)
    · rw [w1] at z; exact absurd z (by decide)
    · rw [w1] at z; exact absurd z (by decide)
    · have g := q.2.2.2 z
      rw [w7, w8, nI_clamp (n := a) (by omega), nI_clamp (n := b) (by omega)] at g ⊢
      rw [(h a w4).1, (h a w4).2, (h b w5).1, (h b w5).2]
      exact g
theorem oc_Tab_up {nc tc : Nat} {tm kd par num ann rcv bod mc ml mb : Nat → Int32} {r : Nat} {rt rn : Nat → Int32} {n : Nat} {t e : Int32} (hc : nc ≤ 32) (hn : n < nc) (N : oc_Nd nc tc kd par num ann rcv bod mc ml mb)
    (T : oc_Tab tc tm kd par num ann rcv bod mc ml mb r rt rn n) (q : oc_LT tm kd par num ann rcv bod mc ml mb r rt rn n t e) (ht : t < 0 ∨ ∃ k, k < tc ∧ t = nI k) :
    oc_Tab tc tm kd par num ann rcv bod mc ml mb r (upd rt n t) (upd rn n e) (n + 1) := fun m hm => by
  by_cases z : m = n
  · subst z
    rw [pk_us, pk_us]
    exact ⟨oc_LT_cg hc hn (N m hn) (fun j hj => ⟨pk_un (by omega), pk_un (by omega)⟩) q, ht⟩
  · rw [pk_un z, pk_un z]
    obtain ⟨a, b⟩ := T m (by omega)
    exact ⟨oc_LT_cg hc (by omega) (N m (by omega)) (fun j hj => ⟨pk_un (by omega), pk_un (by omega)⟩) a, b⟩
end
section
/-! the verdict at a node, and the walk over the term -/
def oc_V0 (par kd num ann bod : Nat → Int32) (r n : Nat) (v : Int32) : Prop :=
  (∃ p : Nat, oc_bo par kd bod r n (num n).toNatClampNeg = (p : Int) ∧ v = ann p) ∨ ((∀ p : Nat, ¬ oc_bo par kd bod r n (num n).toNatClampNeg = (p : Int)) ∧ v = -2)
def oc_Ok (tc : Nat) (tm ann ml : Nat → Int32) (n i : Nat) (ct : Int32) : Prop :=
  i = 0 ∨ ∃ i' k, i = i' + 1 ∧ k < tc ∧ ct = nI k ∧ oc_sub tm k (tm ((ann n).toNatClampNeg * 16 + (ml (n * 8 + i')).toNatClampNeg)).toNatClampNeg
def oc_V1 (tc : Nat) (tm ann mc ml : Nat → Int32) (n : Nat) (ct d v : Int32) : Prop :=
  (ann n = 0 ∧ v = -3) ∨ (¬ ann n = 0 ∧ ((¬ oc_LM tm mc ml n (ann n).toNatClampNeg ∧ v = -5) ∨ (oc_LM tm mc ml n (ann n).toNatClampNeg ∧
    ((∃ i k, d = nI (i + 1) ∧ i < (mc n).toNatClampNeg ∧ k < tc ∧ ct = nI k ∧ ¬ oc_sub tm k (tm ((ann n).toNatClampNeg * 16 + (ml (n * 8 + i)).toNatClampNeg)).toNatClampNeg ∧ v = -7) ∨
     (∃ i, d = nI i ∧ i ≤ (mc n).toNatClampNeg ∧ oc_Ok tc tm ann ml n i ct ∧ ((i < (mc n).toNatClampNeg ∧ v = -100) ∨ (i = (mc n).toNatClampNeg ∧ v = ann n)))))))
def oc_V2 (tc : Nat) (tm num : Nat → Int32) (n : Nat) (ct d v : Int32) : Prop :=
  (d = 0 ∧ v = -100) ∨ (¬ d = 0 ∧ ((ct = 0 ∧ v = -3) ∨ ∃ k, k < tc ∧ ¬ k = 0 ∧ ct = nI k ∧
    ((tm (k * 16 + (num n).toNatClampNeg) = -1 ∧ v = -4) ∨ (¬ tm (k * 16 + (num n).toNatClampNeg) = -1 ∧ v = tm (k * 16 + (num n).toNatClampNeg)))))
def oc_V3 (tc : Nat) (tm num ann : Nat → Int32) (n : Nat) (ct d v : Int32) : Prop :=
  (d = 0 ∧ v = -100) ∨ (¬ d = 0 ∧ ((ann n = 0 ∧ v = -3) ∨ (¬ ann n = 0 ∧
    ((tm ((ann n).toNatClampNeg * 16 + (num n).toNatClampNeg) = -1 ∧ v = -4) ∨ (¬ tm ((ann n).toNatClampNeg * 16 + (num n).toNatClampNeg) = -1 ∧ ∃ k, k < tc ∧ ct = nI k ∧
      ((d = 1 ∧ oc_sub tm k (ann n).toNatClampNeg ∧ v = -100) ∨ (d = 1 ∧ ¬ oc_sub tm k (ann n).toNatClampNeg ∧ v = -6) ∨
       (¬ d = 1 ∧ oc_sub tm k (tm ((ann n).toNatClampNeg * 16 + (num n).toNatClampNeg)).toNatClampNeg ∧ v = ann n) ∨
       (¬ d = 1 ∧ ¬ oc_sub tm k (tm ((ann n).toNatClampNeg * 16 + (num n).toNatClampNeg)).toNatClampNeg ∧ v = -7)))))))
def oc_Vd (tc : Nat) (tm kd par num ann bod mc ml : Nat → Int32) (r n : Nat) (ct : Int32) (cd : Nat → Int32) (v : Int32) : Prop :=
  (kd n = 0 ∧ oc_V0 par kd num ann bod r n v) ∨ (kd n = 1 ∧ oc_V1 tc tm ann mc ml n ct (cd n) v) ∨ (kd n = 2 ∧ oc_V2 tc tm num n ct (cd n) v) ∨ (kd n = 3 ∧ oc_V3 tc tm num ann n ct (cd n) v)
theorem oc_ann {nc tc : Nat} {kd par num ann rcv bod mc ml mb : Nat → Int32} (N : oc_Nd nc tc kd par num ann rcv bod mc ml mb) {p m : Nat} (hp : p < nc) (hm : m < 2 ^ 31) (h : kd p = 1 ∨ bod p = nI m) : ∃ A, A < tc ∧ ann p = nI A := by
  obtain ⟨-, ⟨k1, k2, -⟩ | ⟨-, -, k3, -⟩ | ⟨k1, k2, -⟩ | ⟨-, -, k3, -⟩⟩ := N p hp
  · rcases h with h | h
    · rw [k1] at h; exact absurd h (by decide)
    · rw [k2] at h; exact absurd h (oc_m1' hm)
  · exact k3
  · rcases h with h | h
    · rw [k1] at h; exact absurd h (by decide)
    · rw [k2] at h; exact absurd h (oc_m1' hm)
  · exact k3
theorem oc_sm_mono (f : Nat → Nat) {i : Nat} : ∀ m, i ≤ m → oc_sm f i ≤ oc_sm f m
  | 0, h => by rw [show i = 0 by omega]; exact Nat.le_refl _
  | m + 1, h => by
    by_cases e : i = m + 1
    · rw [e]; exact Nat.le_refl _
    · have := oc_sm_mono f m (show i ≤ m by omega)
      rw [oc_sm]; omega
theorem oc_dfs {nc tc : Nat} {tm mk kd par num ann rcv bod mc ml mb : Nat → Int32} {r : Nat} {rt rn : Nat → Int32} (hc : nc ≤ 32) (htc : tc ≤ 32) (hr : r < nc)
    (N : oc_Nd nc tc kd par num ann rcv bod mc ml mb) (Y : oc_Ty tc tm mk) (T : oc_Tab tc tm kd par num ann rcv bod mc ml mb r rt rn (r + 1))
    (W : Nat → Nat → Nat → Int32 → (Nat → Int32) → Prop) (E : Int32 → Int32 → (Nat → Int32) → Prop) (R : Int32 → (Nat → Int32) → Prop)
    (hp : ∀ f s n c ct cd, s < 64 → n < nc → c < nc → oc_Vd tc tm kd par num ann bod mc ml r n ct cd (-100) → (kd n = 1 → ∃ i, i < 8 ∧ cd n = nI i ∧ mb (n * 8 + i) = nI c) → (¬ kd n = 1 → (cd n = 0 → rcv n = nI c) ∧ (¬ cd n = 0 → bod n = nI c)) → W f (s + 1) c ct (upd cd c 0) → W (f + 1) s n ct cd)
    (he : ∀ f s n ct cd v, s < 64 → n < nc → oc_Vd tc tm kd par num ann bod mc ml r n ct cd v → v < 0 → ¬ v = -100 → E v (nI n) cd → W (f + 1) s n ct cd)
    (hR : ∀ f s ct cd v, s < 64 → oc_Vd tc tm kd par num ann bod mc ml r r ct cd v → ¬ v < 0 → R v cd → W (f + 1) s r ct cd)
    (hu : ∀ f s n p ct cd v, s < 64 → n < nc → p < nc → n ≠ r → par n = nI p → oc_Vd tc tm kd par num ann bod mc ml r n ct cd v → ¬ v < 0 → W f (s + 1) p v (upd cd p (cd p + 1)) → W (f + 1) s n ct cd) :
    ∀ n, n ≤ r → ∀ f s ct cd, cd n = 0 → 64 - s < f → s + 2 * oc_sz par nc n ≤ 65 → (n = r ∨ ∃ p, p < nc ∧ par n = nI p) →
      (rt n < 0 → ∀ cd', E (rt n) (rn n) cd') → (¬ rt n < 0 → n = r → ∀ cd', R (rt n) cd') →
      (¬ rt n < 0 → n ≠ r → ∀ p f' s' cd', p < nc → par n = nI p → 64 - s' < f' → s' + 1 ≤ s + 2 * oc_sz par nc n → (∀ j, n < j → cd' j = cd j) → W f' s' p (rt n) (upd cd' p (cd' p + 1))) →
      W f s n ct cd := by
  intro n
  induction n using Nat.strongRecOn with
  | ind n IH =>
  intro hnr f0 s0 ct0 cd0 hcd hf0 hs0 hpn hE hRR hU
  have hn : n < nc := by omega
  have hPa := oc_Nd_Pa N
  have hsz1 : 1 ≤ oc_sz par nc n := by
    have := oc_sz_c hPa hc hn (fun _ => 0) 0 (fun i hi => absurd hi (Nat.not_lt_zero _)) (fun i j hi => absurd hi (Nat.not_lt_zero _))
    omega
  -- how the walk ends at n with the type of n
  have fin : ∀ f s ct cd, 64 - s < f → s + 2 ≤ s0 + 2 * oc_sz par nc n → (∀ j, n < j → cd j = cd0 j) → oc_Vd tc tm kd par num ann bod mc ml r n ct cd (rt n) → ¬ rt n < 0 → W f s n ct cd := by
    intro f s ct cd hf hs hj hV hneg
    obtain ⟨f', rfl⟩ : ∃ f', f = f' + 1 := ⟨f - 1, by omega⟩
    by_cases e : n = r
    · subst e
      exact hR f' s ct cd _ (by omega) hV hneg (hRR hneg rfl cd)
    · rcases hpn with h | ⟨p, h1, h2⟩
      · exact absurd h e
      · exact hu f' s n p ct cd _ (by omega) hn h1 e h2 hV hneg (hU hneg e p f' (s + 1) cd h1 h2 (by omega) (by omega) hj)
  have err : ∀ f s ct cd v, 64 - s < f → s + 2 ≤ s0 + 2 * oc_sz par nc n → oc_Vd tc tm kd par num ann bod mc ml r n ct cd v → v < 0 → ¬ v = -100 → rt n = v ∧ rn n = nI n → W f s n ct cd := by
    intro f s ct cd v hf hs hV hv h100 hE2
    obtain ⟨f', rfl⟩ : ∃ f', f = f' + 1 := ⟨f - 1, by omega⟩
    have h := hE (by rw [hE2.1]; exact hv) cd
    rw [hE2.1, hE2.2] at h
    exact he f' s n ct cd v (by omega) hn hV hv h100 h
  have hT := T n (by omega)
  obtain ⟨-, ⟨k1, k2, k3⟩ | ⟨k1, k2, ⟨A, hA, eA⟩, m, w4, w5, w6, w7⟩ | ⟨k1, w2, ⟨l, hl, el⟩, a, w4, w5, w6⟩ | ⟨k1, ⟨l, hl, el⟩, ⟨A, hA, eA⟩, a, b, w4, w5, w6, w7, w8, w9, w10⟩⟩ := N n hn
  · -- a variable
    have g := hT.1.1 k1
    rcases oc_bo_3 (kd := kd) (bod := bod) (r := r) hPa hc n hn (num n).toNatClampNeg with h | h | ⟨p, m, h1, h2, h3, h4⟩
    · have q : ∀ p : Nat, ¬ oc_bo par kd bod r n (num n).toNatClampNeg = (p : Int) := fun p hp' => by rw [h] at hp'; omega
      exact err f0 s0 ct0 cd0 (-2) hf0 (by omega) (Or.inl ⟨k1, Or.inr ⟨q, rfl⟩⟩) (by decide) (by decide) (g.2 q)
    · have q : ∀ p : Nat, ¬ oc_bo par kd bod r n (num n).toNatClampNeg = (p : Int) := fun p hp' => by rw [h] at hp'; omega
      exact err f0 s0 ct0 cd0 (-2) hf0 (by omega) (Or.inl ⟨k1, Or.inr ⟨q, rfl⟩⟩) (by decide) (by decide) (g.2 q)
    · obtain ⟨A, hA, eA⟩ := oc_ann N h1 (by omega) h4
      have e := (g.1 p h3).1
      refine fin f0 s0 ct0 cd0 hf0 (by omega) (fun _ _ => rfl) (Or.inl ⟨k1, Or.inl ⟨p, h3, e⟩⟩) ?_
      rw [e, eA]
      exact nI_pos (by omega)
  · -- an object literal
    have g := hT.1.2.1 k1
    have cm : (mc n).toNatClampNeg = m := by rw [w5, nI_clamp (by omega)]
    by_cases hA0 : ann n = 0
    · exact err f0 s0 ct0 cd0 (-3) hf0 (by omega) (Or.inr (Or.inl ⟨k1, Or.inl ⟨hA0, rfl⟩⟩)) (by decide) (by decide) (g.1 hA0)
    rcases Classical.em (oc_LM tm mc ml n (ann n).toNatClampNeg) with hM | hM
    · have gO := (g.2 hA0).2 hM
      rw [cm] at gO
      have hch : ∀ i, i < m → (mb (n * 8 + i)).toNatClampNeg < n ∧ par (mb (n * 8 + i)).toNatClampNeg = nI n := fun i hi => by
        obtain ⟨l, b, x1, x2, x3, x4, x5⟩ := w6 i hi
        rw [x4, nI_clamp (by omega)]
        exact ⟨x3, x5⟩
      have hdis : ∀ i j, i < m → j < m → (mb (n * 8 + i)).toNatClampNeg = (mb (n * 8 + j)).toNatClampNeg → i = j := fun i j hi hj hq => by
        obtain ⟨l, b, x1, x2, x3, x4, x5⟩ := w6 i hi
        obtain ⟨l', b', y1, y2, y3, y4, y5⟩ := w6 j hj
        refine w7 i j hi hj ?_
        rw [x4, y4, nI_clamp (by omega), nI_clamp (by omega)] at hq
        rw [x4, y4, hq]
      have hsz := oc_sz_c hPa hc hn (fun i => (mb (n * 8 + i)).toNatClampNeg) m hch hdis
      have inner : ∀ j i f s ct cd, i + j = m → cd n = nI i → (∀ q, n < q → cd q = cd0 q) → 64 - s < f →
          s + 2 + 2 * oc_sm (fun i => oc_sz par nc (mb (n * 8 + i)).toNatClampNeg) m ≤ s0 + 2 * oc_sz par nc n + 2 * oc_sm (fun i => oc_sz par nc (mb (n * 8 + i)).toNatClampNeg) i →
          ((i = 0 ∧ oc_OB tm ml mb rt rn n (ann n).toNatClampNeg (rt n) (rn n) j 0) ∨ (∃ i' k, i = i' + 1 ∧ k < tc ∧ ct = nI k ∧
            (oc_sub tm k (tm ((ann n).toNatClampNeg * 16 + (ml (n * 8 + i')).toNatClampNeg)).toNatClampNeg → oc_OB tm ml mb rt rn n (ann n).toNatClampNeg (rt n) (rn n) j i) ∧
            (¬ oc_sub tm k (tm ((ann n).toNatClampNeg * 16 + (ml (n * 8 + i')).toNatClampNeg)).toNatClampNeg → rt n = -7 ∧ rn n = nI n))) →
          W f s n ct cd := by
        intro j
        induction j with
        | zero =>
          intro i f s ct cd hij hcd' hq hf hs hG
          have him : i = m := by omega
          have hs2 : s + 2 ≤ s0 + 2 * oc_sz par nc n := by rw [him] at hs; omega
          have ok : oc_Ok tc tm ann ml n i ct → oc_OB tm ml mb rt rn n (ann n).toNatClampNeg (rt n) (rn n) 0 i → W f s n ct cd := fun h1 h2 => by
            have e : rt n = ann n := by
              have := h2.1
              rw [eA, nI_clamp (by omega)] at this
              rw [this, eA]
            refine fin f s ct cd hf hs2 hq (Or.inr (Or.inl ⟨k1, Or.inr ⟨hA0, Or.inr ⟨hM, Or.inr ⟨i, hcd', by omega, h1, Or.inr ⟨by omega, e⟩⟩⟩⟩⟩)) ?_
            rw [e, eA]
            exact nI_pos (by omega)
          rcases hG with ⟨h0, h1⟩ | ⟨i', k, h1, h2, h3, h4, h5⟩
          · exact ok (Or.inl h0) (by rw [h0]; exact h1)
          · rcases Classical.em (oc_sub tm k (tm ((ann n).toNatClampNeg * 16 + (ml (n * 8 + i')).toNatClampNeg)).toNatClampNeg) with hsb | hsb
            · exact ok (Or.inr ⟨i', k, h1, h2, h3, hsb⟩) (h4 hsb)
            · exact err f s ct cd (-7) hf hs2 (Or.inr (Or.inl ⟨k1, Or.inr ⟨hA0, Or.inr ⟨hM, Or.inl ⟨i', k, by rw [hcd', h1], by omega, h2, h3, hsb, rfl⟩⟩⟩⟩)) (by decide) (by decide) (h5 hsb)
        | succ j ih =>
          intro i f s ct cd hij hcd' hq hf hs hG
          have him : i < m := by omega
          have hmono := oc_sm_mono (fun i => oc_sz par nc (mb (n * 8 + i)).toNatClampNeg) m (show i + 1 ≤ m by omega)
          rw [oc_sm] at hmono
          have hs2 : s + 2 ≤ s0 + 2 * oc_sz par nc n := by omega
          have ok : oc_Ok tc tm ann ml n i ct → oc_OB tm ml mb rt rn n (ann n).toNatClampNeg (rt n) (rn n) (j + 1) i → W f s n ct cd := fun h1 h2 => by
            obtain ⟨f', rfl⟩ : ∃ f', f = f' + 1 := ⟨f - 1, by omega⟩
            obtain ⟨l, b, x1, x2, x3, x4, x5⟩ := w6 i him
            have cb : (mb (n * 8 + i)).toNatClampNeg = b := by rw [x4, nI_clamp (by omega)]
            unfold oc_OB at h2
            rw [cb] at h2 hmono
            refine hp f' s n b ct cd (by omega) hn (by omega) (Or.inr (Or.inl ⟨k1, Or.inr ⟨hA0, Or.inr ⟨hM, Or.inr ⟨i, hcd', by omega, h1, Or.inl ⟨by omega, rfl⟩⟩⟩⟩⟩)) (fun _ => ⟨i, by omega, hcd', x4⟩) (fun z => absurd k1 z) ?_
            refine IH b x3 (by omega) f' (s + 1) ct _ pk_us (by omega) (by omega) (Or.inr ⟨n, hn, x5⟩) (fun z cd' => ?_) (fun _ z => by omega) (fun z _ p f'' s' cd' hp1 hpp hf'' hs' hcj => ?_)
            · have y := h2.1 z
              have y2 := hE (by rw [y.1]; exact z) cd'
              rw [y.1, y.2] at y2
              exact y2
            · rw [x5, nI_eq (by omega) (by omega)] at hpp
              subst hpp
              rcases (T b (by omega)).2 with y | ⟨k, y1, y2⟩
              · exact absurd y z
              have e1 : cd' n + 1 = nI (i + 1) := by
                rw [hcj n x3, pk_un (by omega), hcd', nI_1]
              refine ih (i + 1) f'' s' (rt b) _ (by omega) (by rw [pk_us, e1]) (fun q hq' => ?_) hf'' ?_ (Or.inr ⟨i, k, rfl, y1, y2, ?_, ?_⟩)
              · rw [pk_un (by omega), hcj q (by omega), pk_un (by omega), hq q hq']
              · rw [oc_sm, cb]; omega
              · intro hsb
                refine (h2.2 z).1 ?_
                rw [y2, nI_clamp (by omega)]
                exact hsb
              · intro hsb
                refine (h2.2 z).2 ?_
                rw [y2, nI_clamp (by omega)]
                exact hsb
          rcases hG with ⟨h0, h1⟩ | ⟨i', k, h1, h2, h3, h4, h5⟩
          · exact ok (Or.inl h0) (by rw [h0]; exact h1)
          · rcases Classical.em (oc_sub tm k (tm ((ann n).toNatClampNeg * 16 + (ml (n * 8 + i')).toNatClampNeg)).toNatClampNeg) with hsb | hsb
            · exact ok (Or.inr ⟨i', k, h1, h2, h3, hsb⟩) (h4 hsb)
            · exact err f s ct cd (-7) hf hs2 (Or.inr (Or.inl ⟨k1, Or.inr ⟨hA0, Or.inr ⟨hM, Or.inl ⟨i', k, by rw [hcd', h1], by omega, h2, h3, hsb, rfl⟩⟩⟩⟩)) (by decide) (by decide) (h5 hsb)
      exact inner m 0 f0 s0 ct0 cd0 (by omega) (by rw [hcd, nI_0]) (fun _ _ => rfl) hf0 (by rw [show oc_sm (fun i => oc_sz par nc (mb (n * 8 + i)).toNatClampNeg) 0 = 0 from rfl]; omega) (Or.inl ⟨rfl, gO⟩)
    · exact err f0 s0 ct0 cd0 (-5) hf0 (by omega) (Or.inr (Or.inl ⟨k1, Or.inr ⟨hA0, Or.inl ⟨hM, rfl⟩⟩⟩)) (by decide) (by decide) ((g.2 hA0).1 hM)
  · -- an invocation
    have g := hT.1.2.2.1 k1
    rw [w5, nI_clamp (by omega), el, nI_clamp (by omega)] at g
    have hsz := oc_sz_c hPa hc hn (fun _ => a) 1 (fun _ _ => ⟨w4, w6⟩) (fun i j hi hj _ => by omega)
    rw [oc_sm, oc_sm] at hsz
    obtain ⟨f', rfl⟩ : ∃ f', f0 = f' + 1 := ⟨f0 - 1, by omega⟩
    refine hp f' s0 n a ct0 cd0 (by omega) hn (by omega) (Or.inr (Or.inr (Or.inl ⟨k1, Or.inl ⟨hcd, rfl⟩⟩))) (fun z => by rw [k1] at z; exact absurd z (by decide)) (fun _ => ⟨fun _ => w5, fun z => absurd hcd z⟩) ?_
    refine IH a w4 (by omega) f' (s0 + 1) ct0 _ pk_us (by omega) (by omega) (Or.inr ⟨n, hn, w6⟩) (fun z cd' => ?_) (fun _ z => by omega) (fun z _ p f'' s' cd' hp1 hpp hf'' hs' hcj => ?_)
    · have y := g.1 z
      have y2 := hE (by rw [y.1]; exact z) cd'
      rw [y.1, y.2] at y2
      exact y2
    · rw [w6, nI_eq (by omega) (by omega)] at hpp
      subst hpp
      have e1 : upd cd' n (cd' n + 1) n = 1 := by
        rw [pk_us, hcj n w4, pk_un (by omega), hcd]; decide
      have e2 : ¬ upd cd' n (cd' n + 1) n = 0 := by rw [e1]; decide
      have e3 : ∀ j, n < j → upd cd' n (cd' n + 1) j = cd0 j := fun j hj => by rw [pk_un (by omega), hcj j (by omega), pk_un (by omega)]
      have g2 := g.2 z
      rcases (T a (by omega)).2 with y | ⟨k, y1, y2⟩
      · exact absurd y z
      by_cases z0 : rt a = 0
      · exact err f'' s' (rt a) _ (-3) hf'' (by omega) (Or.inr (Or.inr (Or.inl ⟨k1, Or.inr ⟨e2, Or.inl ⟨z0, rfl⟩⟩⟩))) (by decide) (by decide) (g2.1 z0)
      have g3 := g2.2 z0
      have hk0 : ¬ k = 0 := fun q => z0 (by rw [y2, q, nI_0])
      rw [y2, nI_clamp (by omega)] at g3
      by_cases zm : tm (k * 16 + l) = -1
      · exact err f'' s' (rt a) _ (-4) hf'' (by omega) (Or.inr (Or.inr (Or.inl ⟨k1, Or.inr ⟨e2, Or.inr ⟨k, y1, hk0, y2, Or.inl ⟨by rw [el, nI_clamp (by omega)]; exact zm, rfl⟩⟩⟩⟩))) (by decide) (by decide) (g3.1 zm)
      · have g4 := g3.2 zm
        rcases (Y.2 k y1).2 l hl with w | ⟨m', w1, w2'⟩
        · exact absurd w zm
        refine fin f'' s' (rt a) _ hf'' (by omega) e3 (Or.inr (Or.inr (Or.inl ⟨k1, Or.inr ⟨e2, Or.inr ⟨k, y1, hk0, y2, Or.inr ⟨by rw [el, nI_clamp (by omega)]; exact zm, by rw [el, nI_clamp (by omega)]; exact g4.1⟩⟩⟩⟩))) ?_
        rw [g4.1, w2']
        exact nI_pos (by omega)
  · -- an update
    have g := hT.1.2.2.2 k1
    rw [w7, w8, nI_clamp (n := a) (by omega), nI_clamp (n := b) (by omega)] at g
    have hsz := oc_sz_c hPa hc hn (fun i => if i = 0 then a else b) 2 (fun i _ => by
      by_cases q : i = 0
      · rw [if_pos q]; exact ⟨w4, w9⟩
      · rw [if_neg q]; exact ⟨w5, w10⟩) (fun i j hi hj q => by
      by_cases q1 : i = 0
      · by_cases q2 : j = 0
        · omega
        · rw [if_pos q1, if_neg q2] at q; exact absurd q w6
      · by_cases q2 : j = 0
        · rw [if_neg q1, if_pos q2] at q; exact absurd q.symm w6
        · omega)
    rw [oc_sm, oc_sm, oc_sm, if_pos rfl, if_neg (by decide)] at hsz
    obtain ⟨f', rfl⟩ : ∃ f', f0 = f' + 1 := ⟨f0 - 1, by omega⟩
    have nk1 : ¬ kd n = 1 := fun z => by rw [k1] at z; exact absurd z (by decide)
    refine hp f' s0 n a ct0 cd0 (by omega) hn (by omega) (Or.inr (Or.inr (Or.inr ⟨k1, Or.inl ⟨hcd, rfl⟩⟩))) (fun z => absurd z nk1) (fun _ => ⟨fun _ => w7, fun z => absurd hcd z⟩) ?_
    refine IH a w4 (by omega) f' (s0 + 1) ct0 _ pk_us (by omega) (by omega) (Or.inr ⟨n, hn, w9⟩) (fun z cd' => ?_) (fun _ z => by omega) (fun z _ p f'' s' cd' hp1 hpp hf'' hs' hcj => ?_)
    · have y := g.1 z
      have y2 := hE (by rw [y.1]; exact z) cd'
      rw [y.1, y.2] at y2
      exact y2
    rw [w9, nI_eq (by omega) (by omega)] at hpp
    subst hpp
    have e1 : upd cd' n (cd' n + 1) n = 1 := by
      rw [pk_us, hcj n w4, pk_un (by omega), hcd]; decide
    have e2 : ¬ upd cd' n (cd' n + 1) n = 0 := by rw [e1]; decide
    have e3 : ∀ j, n < j → upd cd' n (cd' n + 1) j = cd0 j := fun j hj => by rw [pk_un (by omega), hcj j (by omega), pk_un (by omega)]
    have g2 := g.2 z
    rcases (T a (by omega)).2 with y | ⟨k, y1, y2⟩
    · exact absurd y z
    by_cases z0 : ann n = 0
    · exact err f'' s' (rt a) _ (-3) hf'' (by omega) (Or.inr (Or.inr (Or.inr ⟨k1, Or.inr ⟨e2, Or.inl ⟨z0, rfl⟩⟩⟩))) (by decide) (by decide) (g2.1 z0)
    have g3 := g2.2 z0
    by_cases zm : tm ((ann n).toNatClampNeg * 16 + (num n).toNatClampNeg) = -1
    · exact err f'' s' (rt a) _ (-4) hf'' (by omega) (Or.inr (Or.inr (Or.inr ⟨k1, Or.inr ⟨e2, Or.inr ⟨z0, Or.inl ⟨zm, rfl⟩⟩⟩⟩))) (by decide) (by decide) (g3.1 zm)
    have g4 := g3.2 zm
    rw [y2, nI_clamp (by omega)] at g4
    rcases Classical.em (oc_sub tm k (ann n).toNatClampNeg) with hsb | hsb
    · have g5 := g4.2 hsb
      obtain ⟨f3, rfl⟩ : ∃ f3, f'' = f3 + 1 := ⟨f'' - 1, by omega⟩
      refine hp f3 s' n b (rt a) _ (by omega) hn (by omega) (Or.inr (Or.inr (Or.inr ⟨k1, Or.inr ⟨e2, Or.inr ⟨z0, Or.inr ⟨zm, k, y1, y2, Or.inl ⟨e1, hsb, rfl⟩⟩⟩⟩⟩))) (fun q => absurd q nk1) (fun _ => ⟨fun q => absurd q e2, fun _ => w8⟩) ?_
      refine IH b w5 (by omega) f3 (s' + 1) (rt a) _ pk_us (by omega) (by omega) (Or.inr ⟨n, hn, w10⟩) (fun q cd2 => ?_) (fun _ q => by omega) (fun q _ p f4 s4 cd2 hp4 hpp4 hf4 hs4 hcj4 => ?_)
      · have y := g5.1 q
        have y3 := hE (by rw [y.1]; exact q) cd2
        rw [y.1, y.2] at y3
        exact y3
      · rw [w10, nI_eq (by omega) (by omega)] at hpp4
        subst hpp4
        have d1 : upd cd2 n (cd2 n + 1) n = 2 := by
          rw [pk_us, hcj4 n w5, pk_un (by omega), e1]; decide
        have d2 : ¬ upd cd2 n (cd2 n + 1) n = 0 := by rw [d1]; decide
        have d4 : ¬ upd cd2 n (cd2 n + 1) n = 1 := by rw [d1]; decide
        have d3 : ∀ j, n < j → upd cd2 n (cd2 n + 1) j = cd0 j := fun j hj => by rw [pk_un (by omega), hcj4 j (by omega), pk_un (by omega), e3 j hj]
        have g6 := g5.2 q
        rcases (T b (by omega)).2 with y | ⟨k', x1, x2⟩
        · exact absurd y q
        rw [x2, nI_clamp (by omega)] at g6
        rcases Classical.em (oc_sub tm k' (tm ((ann n).toNatClampNeg * 16 + (num n).toNatClampNeg)).toNatClampNeg) with hsb2 | hsb2
        · have g7 := g6.2 hsb2
          refine fin f4 s4 (rt b) _ hf4 (by omega) d3 (Or.inr (Or.inr (Or.inr ⟨k1, Or.inr ⟨d2, Or.inr ⟨z0, Or.inr ⟨zm, k', x1, x2, Or.inr (Or.inr (Or.inl ⟨d4, hsb2, g7.1⟩))⟩⟩⟩⟩))) ?_
          rw [g7.1, eA]
          exact nI_pos (by omega)
        · exact err f4 s4 (rt b) _ (-7) hf4 (by omega) (Or.inr (Or.inr (Or.inr ⟨k1, Or.inr ⟨d2, Or.inr ⟨z0, Or.inr ⟨zm, k', x1, x2, Or.inr (Or.inr (Or.inr ⟨d4, hsb2, rfl⟩))⟩⟩⟩⟩))) (by decide) (by decide) (g6.1 hsb2)
    · exact err f'' s' (rt a) _ (-6) hf'' (by omega) (Or.inr (Or.inr (Or.inr ⟨k1, Or.inr ⟨e2, Or.inr ⟨z0, Or.inr ⟨zm, k, y1, y2, Or.inr (Or.inl ⟨e1, hsb, rfl⟩)⟩⟩⟩⟩))) (by decide) (by decide) (g4.1 hsb)
end
section
/-! the machine: environments, objects, frames -/
def oc_En (co cr : Nat → Int32) (us ob : Nat) : Nat → Int32 → Prop
  | 0, _ => True
  | d + 1, e => ∃ c o, c < us ∧ e = nI c ∧ o < ob ∧ co c = nI o ∧ oc_En co cr us ob d (cr c)
theorem oc_En_mo {co cr co' cr' : Nat → Int32} {us ob us' ob' : Nat} (h1 : us ≤ us') (h2 : ob ≤ ob') (h3 : ∀ c, c < us → co' c = co c ∧ cr' c = cr c) : ∀ d e, oc_En co cr us ob d e → oc_En co' cr' us' ob' d e
  | 0, _, _ => trivial
  | d + 1, e, ⟨c, o, x1, x2, x3, x4, x5⟩ => ⟨c, o, by omega, x2, by omega, by rw [(h3 c x1).1, x4], by rw [(h3 c x1).2]; exact oc_En_mo h1 h2 h3 d _ x5⟩
def oc_Ob (nc us ob : Nat) (par kd bod co cr cb ce oe : Nat → Int32) (r : Nat) : Prop :=
  ∀ o l, o < ob → l < 16 → cb (o * 16 + l) = -1 ∨ ∃ b d, b < nc ∧ oc_li par r b = true ∧ cb (o * 16 + l) = nI b ∧ oc_dp par kd bod r b = d + 1 ∧ oc_En co cr us ob d (ce (o * 16 + l)) ∧ oe (o * 16 + l) = ce (o * 16 + l)
def oc_Fr (nc us ob fc : Nat) (par kd bod co cr fn fe fp gn ge gd gs : Nat → Int32) (r : Nat) : Prop :=
  ∀ j, j < fc → ∃ n, n < nc ∧ oc_li par r n = true ∧ fn j = nI n ∧ gn j = nI n ∧ oc_En co cr us ob (oc_dp par kd bod r n) (fe j) ∧ ge j = fe j ∧ gd j = nI (j + 1) ∧ gs j = fp j ∧
    ((fp j = 0 ∧ j + 1 = fc) ∨ (fp j = 1 ∧ (kd n = 2 ∨ kd n = 3)) ∨ (fp j = 2 ∧ kd n = 2))
theorem oc_Ob_mo {nc us ob us' ob' : Nat} {par kd bod co cr co' cr' cb ce oe : Nat → Int32} {r : Nat} (h1 : us ≤ us') (h2 : ob ≤ ob') (h3 : ∀ c, c < us → co' c = co c ∧ cr' c = cr c) (h : oc_Ob nc us ob par kd bod co cr cb ce oe r) :
    ∀ o l, o < ob → l < 16 → cb (o * 16 + l) = -1 ∨ ∃ b d, b < nc ∧ oc_li par r b = true ∧ cb (o * 16 + l) = nI b ∧ oc_dp par kd bod r b = d + 1 ∧ oc_En co' cr' us' ob' d (ce (o * 16 + l)) ∧ oe (o * 16 + l) = ce (o * 16 + l) := fun o l ho hl => by
  rcases h o l ho hl with w | ⟨b, d, w1, w2, w3, w4, w5, w6⟩
  · exact Or.inl w
  · exact Or.inr ⟨b, d, w1, w2, w3, w4, oc_En_mo h1 h2 h3 d _ w5, w6⟩
theorem oc_Fr_mo {nc us ob us' ob' fc : Nat} {par kd bod co cr co' cr' fn fe fp gn ge gd gs : Nat → Int32} {r : Nat} (h1 : us ≤ us') (h2 : ob ≤ ob') (h3 : ∀ c, c < us → co' c = co c ∧ cr' c = cr c) (h : oc_Fr nc us ob fc par kd bod co cr fn fe fp gn ge gd gs r) :
    oc_Fr nc us' ob' fc par kd bod co' cr' fn fe fp gn ge gd gs r := fun j hj => by
  obtain ⟨n, w1, w2, w3, w4, w5, w6⟩ := h j hj
  exact ⟨n, w1, w2, w3, w4, oc_En_mo h1 h2 h3 _ _ w5, w6⟩
def oc_MM (nc r F : Nat) (par kd bod : Nat → Int32) (us ob fc : Nat) (val ret : Int32) (cb ce oe co cr fn fe fp gn ge gd gs : Nat → Int32) : Prop :=
  us ≤ F ∧ ob ≤ 32 ∧ fc ≤ 48 ∧ oc_Ob nc us ob par kd bod co cr cb ce oe r ∧ oc_Fr nc us ob fc par kd bod co cr fn fe fp gn ge gd gs r ∧
  ((∃ q, fc = q + 1 ∧ fp q = 0) ∨ ∃ o, o < ob ∧ val = nI o ∧ ret = nI o)
def oc_wt (fn fp : Nat → Int32) (j : Nat) : Nat := if fp j = 0 then 3 * (fn j).toNatClampNeg + 3 else if fp j = 1 then 2 else 1
def oc_Ph (F us fc : Nat) (fn fp : Nat → Int32) : Nat := (F - us) * 96 + oc_sm (oc_wt fn fp) fc
theorem oc_MM_pop {nc r F : Nat} {par kd bod : Nat → Int32} {us ob ob' q o : Nat} {val ret : Int32} {cb ce oe co cr fn fe fp gn ge gd gs cb' ce' oe' : Nat → Int32}
    (h : oc_MM nc r F par kd bod us ob (q + 1) val ret cb ce oe co cr fn fe fp gn ge gd gs) (h1 : ob ≤ ob') (h2 : ob' ≤ 32) (hO : oc_Ob nc us ob' par kd bod co cr cb' ce' oe' r) (ho : o < ob') :
    oc_MM nc r F par kd bod us ob' q (nI o) (nI o) cb' ce' oe' co cr fn fe fp gn ge gd gs := by
  obtain ⟨a1, a2, a3, a4, a5, a6⟩ := h
  refine ⟨a1, h2, by omega, hO, fun j hj => ?_, Or.inr ⟨o, ho, rfl, rfl⟩⟩
  obtain ⟨n, w1, w2, w3, w4, w5, w6, w7, w8, w9⟩ := a5 j (by omega)
  refine ⟨n, w1, w2, w3, w4, oc_En_mo (Nat.le_refl _) h1 (fun _ _ => ⟨rfl, rfl⟩) _ _ w5, w6, w7, w8, ?_⟩
  rcases w9 with ⟨-, y⟩ | y
  · omega
  · exact Or.inr y
theorem oc_MM_push {nc r F : Nat} {par kd bod : Nat → Int32} {us us' ob q n n' : Nat} {val ret e' ph : Int32} {cb ce oe co cr co' cr' fn fe fp gn ge gd gs : Nat → Int32}
    (h : oc_MM nc r F par kd bod us ob (q + 1) val ret cb ce oe co cr fn fe fp gn ge gd gs) (hnc : nc ≤ 32) (hq : q + 1 < 48) (h1 : us ≤ us') (h2 : us' ≤ F) (h3 : ∀ c, c < us → co' c = co c ∧ cr' c = cr c)
    (hn : n < nc) (en : fn q = nI n) (hph : (ph = 1 ∧ (kd n = 2 ∨ kd n = 3)) ∨ (ph = 2 ∧ kd n = 2)) (hn' : n' < nc) (hl : oc_li par r n' = true) (hE : oc_En co' cr' us' ob (oc_dp par kd bod r n') e') :
    oc_MM nc r F par kd bod us' ob (q + 2) val ret cb ce oe co' cr' (upd fn (q + 1) (nI n')) (upd fe (q + 1) e') (upd (upd fp q ph) (q + 1) 0) (upd gn (q + 1) (nI n')) (upd ge (q + 1) e') (upd gd (q + 1) (nI (q + 2))) (upd (upd gs q ph) (q + 1) 0) := by
  obtain ⟨a1, a2, a3, a4, a5, a6⟩ := h
  refine ⟨h2, a2, by omega, oc_Ob_mo h1 (Nat.le_refl _) h3 a4, fun j hj => ?_, Or.inl ⟨q + 1, rfl, pk_us⟩⟩
  by_cases z : j = q + 1
  · subst z
    refine ⟨n', hn', hl, pk_us, pk_us, ?_, ?_, pk_us, ?_, Or.inl ⟨pk_us, rfl⟩⟩
    · rw [pk_us]; exact hE
    · rw [pk_us, pk_us]
    · rw [pk_us, pk_us]
  · obtain ⟨n0, w1, w2, w3, w4, w5, w6, w7, w8, w9⟩ := a5 j (by omega)
    refine ⟨n0, w1, w2, ?_, ?_, ?_, ?_, ?_, ?_, ?_⟩
    · rw [pk_un z]; exact w3
    · rw [pk_un z]; exact w4
    · rw [pk_un z]; exact oc_En_mo h1 (Nat.le_refl _) h3 _ _ w5
    · rw [pk_un z, pk_un z]; exact w6
    · rw [pk_un z]; exact w7
    · rw [pk_un z, pk_un z]
      by_cases y : j = q
      · rw [y, pk_us, pk_us]
      · rw [pk_un y, pk_un y]; exact w8
    · rw [pk_un z]
      by_cases y : j = q
      · subst y
        rw [pk_us]
        have e0 : n0 = n := by
          rw [w3, nI_eq (by omega) (by omega)] at en
          exact en
        rw [e0]
        rcases hph with x | x
        · exact Or.inr (Or.inl x)
        · exact Or.inr (Or.inr x)
      · rw [pk_un y]
        rcases w9 with ⟨-, x⟩ | x
        · omega
        · exact Or.inr x
theorem oc_wt_pos (fn fp : Nat → Int32) (j : Nat) : 1 ≤ oc_wt fn fp j := by
  unfold oc_wt
  split
  · omega
  · split <;> omega
theorem oc_Ph_pop {F us q : Nat} {fn fp : Nat → Int32} : oc_Ph F us q fn fp < oc_Ph F us (q + 1) fn fp := by
  have := oc_wt_pos fn fp q
  unfold oc_Ph
  rw [oc_sm]
  omega
theorem oc_Ph_push {F us us' q n' : Nat} {ph : Int32} {fn fp : Nat → Int32} (hn' : n' < 2 ^ 31) (h : (F - us') * 96 + (if ph = 0 then 3 * (fn q).toNatClampNeg + 3 else if ph = 1 then 2 else 1) + (3 * n' + 3) < (F - us) * 96 + oc_wt fn fp q) :
    oc_Ph F us' (q + 2) (upd fn (q + 1) (nI n')) (upd (upd fp q ph) (q + 1) 0) < oc_Ph F us (q + 1) fn fp := by
  unfold oc_Ph
  rw [oc_sm, oc_sm, oc_sm]
  have e1 : oc_sm (oc_wt (upd fn (q + 1) (nI n')) (upd (upd fp q ph) (q + 1) 0)) q = oc_sm (oc_wt fn fp) q := oc_sm_cg q fun i hi => by
    unfold oc_wt
    rw [pk_un (show i ≠ q + 1 by omega), pk_un (show i ≠ q + 1 by omega), pk_un (show i ≠ q by omega)]
  have e2 : oc_wt (upd fn (q + 1) (nI n')) (upd (upd fp q ph) (q + 1) 0) q = (if ph = 0 then 3 * (fn q).toNatClampNeg + 3 else if ph = 1 then 2 else 1) := by
    unfold oc_wt
    rw [pk_un (show q ≠ q + 1 by omega), pk_un (show q ≠ q + 1 by omega), pk_us]
  have e3 : oc_wt (upd fn (q + 1) (nI n')) (upd (upd fp q ph) (q + 1) 0) (q + 1) = 3 * n' + 3 := by
    unfold oc_wt
    rw [pk_us, pk_us, if_pos rfl, nI_clamp hn']
  rw [e1, e2, e3]
  omega
theorem oc_kid {nc tc : Nat} {kd par num ann rcv bod mc ml mb : Nat → Int32} {r n c : Nat} (hc : nc ≤ 32) (N : oc_Nd nc tc kd par num ann rcv bod mc ml mb) (hn : n < nc) (hl : oc_li par r n = true) (h1 : c < n) (h2 : par c = nI n) :
    oc_li par r c = true ∧ (kd n = 1 ∨ bod n = nI c → oc_dp par kd bod r c = oc_dp par kd bod r n + 1) ∧ (¬ (kd n = 1 ∨ bod n = nI c) → oc_dp par kd bod r c = oc_dp par kd bod r n) := by
  have le := oc_li_le (oc_Nd_Pa N) hc n hn hl
  refine ⟨?_, fun h => oc_dp_1 h2 h1 (by omega) (by omega) h, fun h => oc_dp_2 h2 h1 (by omega) (by omega) h⟩
  rw [oc_li_s h2 h1 (by omega) (by omega)]
  exact hl
/-! what the loops of a new object leave -/
def oc_fi (f : Nat → Int32) (o : Nat) (x : Int32) : Nat → Nat → Int32
  | 0 => f
  | l + 1 => upd (oc_fi f o x l) (o * 16 + l) x
theorem oc_fi_lo {f : Nat → Int32} {o : Nat} {x : Int32} : ∀ l j, j < o * 16 → oc_fi f o x l j = f j
  | 0, _, _ => rfl
  | l + 1, j, h => by rw [oc_fi, pk_un (by omega), oc_fi_lo l j h]
theorem oc_fi_hi {f : Nat → Int32} {o : Nat} {x : Int32} : ∀ l j, j < l → oc_fi f o x l (o * 16 + j) = x
  | 0, _, h1 => absurd h1 (Nat.not_lt_zero _)
  | l + 1, j, h1 => by
    rw [oc_fi]
    by_cases e : j = l
    · rw [e, pk_us]
    · rw [pk_un (by omega)]
      exact oc_fi_hi l j (by omega)
def oc_mt (f ml g : Nat → Int32) (o n : Nat) : Nat → Nat → Int32
  | 0 => f
  | i + 1 => upd (oc_mt f ml g o n i) (o * 16 + (ml (n * 8 + i)).toNatClampNeg) (g (n * 8 + i))
theorem oc_mt_lo {f ml g : Nat → Int32} {o n : Nat} : ∀ i j, j < o * 16 → oc_mt f ml g o n i j = f j
  | 0, _, _ => rfl
  | i + 1, j, h => by rw [oc_mt, pk_un (by omega), oc_mt_lo i j h]
theorem oc_mt_at (ml : Nat → Int32) (o n l : Nat) : ∀ i, (∀ f g : Nat → Int32, oc_mt f ml g o n i (o * 16 + l) = f (o * 16 + l)) ∨ ∃ i', i' < i ∧ ∀ f g : Nat → Int32, oc_mt f ml g o n i (o * 16 + l) = g (n * 8 + i')
  | 0 => Or.inl fun _ _ => rfl
  | i + 1 => by
    by_cases e : l = (ml (n * 8 + i)).toNatClampNeg
    · exact Or.inr ⟨i, by omega, fun f g => by rw [oc_mt, ← e, pk_us]⟩
    · rcases oc_mt_at ml o n l i with h | ⟨i', h1, h2⟩
      · exact Or.inl fun f g => by rw [oc_mt, pk_un (by omega)]; exact h f g
      · exact Or.inr ⟨i', by omega, fun f g => by rw [oc_mt, pk_un (by omega)]; exact h2 f g⟩
theorem oc_Ob_obj {nc tc us ob : Nat} {kd par num ann rcv bod mc ml mb co cr cb ce oe : Nat → Int32} {r n m : Nat} {e : Int32} (hc : nc ≤ 32) (N : oc_Nd nc tc kd par num ann rcv bod mc ml mb) (hn : n < nc) (hl : oc_li par r n = true) (hk : kd n = 1) (hm : mc n = nI m) (hm8 : m ≤ 8)
    (hE : oc_En co cr us ob (oc_dp par kd bod r n) e) (h : oc_Ob nc us ob par kd bod co cr cb ce oe r) :
    oc_Ob nc us (ob + 1) par kd bod co cr (oc_mt (oc_fi cb ob (-1) 16) ml mb ob n m) (oc_mt ce ml (fun _ => e) ob n m) (oc_mt (oc_fi oe ob (-1) 16) ml (fun _ => e) ob n m) r := fun o l ho hl' => by
  by_cases z : o = ob
  · subst z
    rcases oc_mt_at ml o n l m with w | ⟨i, w1, w2⟩
    · left
      rw [w, oc_fi_hi 16 l hl']
    · right
      rw [w2, w2, w2]
      obtain ⟨-, ⟨k1, -⟩ | ⟨k1, k2, k3, m', x4, x5, x6, x7⟩ | ⟨k1, -⟩ | ⟨k1, -⟩⟩ := N n hn
      · rw [hk] at k1; exact absurd k1 (by decide)
      · have em : m' = m := by
          rw [hm] at x5
          exact ((nI_eq (by omega) (by omega)).mp x5).symm
        obtain ⟨l', b, y1, y2, y3, y4, y5⟩ := x6 i (by omega)
        obtain ⟨q1, q2, -⟩ := oc_kid (r := r) hc N hn hl y3 y5
        exact ⟨b, oc_dp par kd bod r n, by omega, q1, y4, q2 (Or.inl hk), oc_En_mo (Nat.le_refl _) (by omega) (fun _ _ => ⟨rfl, rfl⟩) _ _ hE, rfl⟩
      · rw [hk] at k1; exact absurd k1 (by decide)
      · rw [hk] at k1; exact absurd k1 (by decide)
  · have lo : o * 16 + l < ob * 16 := by omega
    rw [oc_mt_lo m _ lo, oc_mt_lo m _ lo, oc_mt_lo m _ lo, oc_fi_lo 16 _ lo, oc_fi_lo 16 _ lo]
    exact oc_Ob_mo (Nat.le_refl _) (by omega) (fun _ _ => ⟨rfl, rfl⟩) h o l (by omega) hl'
theorem oc_Ob_upd {nc tc us ob v l0 b : Nat} {kd par num ann rcv bod mc ml mb co cr cb ce oe : Nat → Int32} {r n : Nat} {e : Int32} (hc : nc ≤ 32) (N : oc_Nd nc tc kd par num ann rcv bod mc ml mb) (hn : n < nc) (hl : oc_li par r n = true) (hb : b < n) (eb : bod n = nI b) (pb : par b = nI n) (hv : v < ob)
    (hE : oc_En co cr us ob (oc_dp par kd bod r n) e) (h : oc_Ob nc us ob par kd bod co cr cb ce oe r) :
    oc_Ob nc us (ob + 1) par kd bod co cr (upd (oc_tc cb v ob 16) (ob * 16 + l0) (nI b)) (upd (oc_tc ce v ob 16) (ob * 16 + l0) e) (upd (oc_tc oe v ob 16) (ob * 16 + l0) e) r := fun o l ho hl' => by
  by_cases z : o = ob
  · subst z
    by_cases y : l = l0
    · subst y
      right
      rw [pk_us, pk_us, pk_us]
      obtain ⟨q1, q2, -⟩ := oc_kid (r := r) hc N hn hl hb pb
      exact ⟨b, oc_dp par kd bod r n, by omega, q1, rfl, q2 (Or.inr eb), oc_En_mo (Nat.le_refl _) (by omega) (fun _ _ => ⟨rfl, rfl⟩) _ _ hE, rfl⟩
    · rw [pk_un (by omega), pk_un (by omega), pk_un (by omega), oc_tc_hi hv 16 l hl' (Nat.le_refl _), oc_tc_hi hv 16 l hl' (Nat.le_refl _), oc_tc_hi hv 16 l hl' (Nat.le_refl _)]
      exact oc_Ob_mo (Nat.le_refl _) (by omega) (fun _ _ => ⟨rfl, rfl⟩) h v l hv hl'
  · have lo : o * 16 + l < ob * 16 := by omega
    rw [pk_un (by omega), pk_un (by omega), pk_un (by omega), oc_tc_lo 16 _ lo, oc_tc_lo 16 _ lo, oc_tc_lo 16 _ lo]
    exact oc_Ob_mo (Nat.le_refl _) (by omega) (fun _ _ => ⟨rfl, rfl⟩) h o l (by omega) hl'
end
section
theorem oc_10 : ¬ (1 : Int32) = 0 := by decide
theorem oc_xT1 {NC TC tc nc us ob : Nat} {fail res fl fc val : Int32} {tm mk kd par num ann rcv bod mc ml mb cd cb ce org co cr fn fe fp : Nat → Int32} {A B : Prop} {j : Nat} (hj : j < tc) (ht : tc ≤ 32) (hB : B) : wpX_isType (fun r => (r = 0 → A) ∧ (¬ r = 0 → B)) (nI NC, nI TC, nI tc, nI nc, fail, res, fl, nI us, nI ob, fc, val, tm, mk, kd, par, num, ann, rcv, bod, mc, ml, mb, cd, cb, ce, org, co, cr, fn, fe, fp) (nI j) :=
  br_f (nI_pos (by omega)) (br_f (nI_ge hj (by omega)) (br_f oc_10 hB))
theorem oc_xT0 {NC TC tc nc us ob : Nat} {fail res fl fc val : Int32} {tm mk kd par num ann rcv bod mc ml mb cd cb ce org co cr fn fe fp : Nat → Int32} {A B : Prop} {t : Int32} (hj : t < 0 ∨ nI tc ≤ t) (hA : A) : wpX_isType (fun r => (r = 0 → A) ∧ (¬ r = 0 → B)) (nI NC, nI TC, nI tc, nI nc, fail, res, fl, nI us, nI ob, fc, val, tm, mk, kd, par, num, ann, rcv, bod, mc, ml, mb, cd, cb, ce, org, co, cr, fn, fe, fp) t :=
  br_c (fun _ => br_t rfl hA) (fun h => br_t (hj.resolve_left h) (br_t rfl hA))
theorem oc_xN1 {NC TC tc nc us ob : Nat} {fail res fl fc val : Int32} {tm mk kd par num ann rcv bod mc ml mb cd cb ce org co cr fn fe fp : Nat → Int32} {A B : Prop} {j : Nat} (hj : j < nc) (ht : nc ≤ 32) (hB : B) : wpX_isNode (fun r => (r = 0 → A) ∧ (¬ r = 0 → B)) (nI NC, nI TC, nI tc, nI nc, fail, res, fl, nI us, nI ob, fc, val, tm, mk, kd, par, num, ann, rcv, bod, mc, ml, mb, cd, cb, ce, org, co, cr, fn, fe, fp) (nI j) :=
  br_f (nI_pos (by omega)) (br_f (nI_ge hj (by omega)) (br_f oc_10 hB))
theorem oc_xN0 {NC TC tc nc us ob : Nat} {fail res fl fc val : Int32} {tm mk kd par num ann rcv bod mc ml mb cd cb ce org co cr fn fe fp : Nat → Int32} {A B : Prop} {t : Int32} (hj : t < 0 ∨ nI nc ≤ t) (hA : A) : wpX_isNode (fun r => (r = 0 → A) ∧ (¬ r = 0 → B)) (nI NC, nI TC, nI tc, nI nc, fail, res, fl, nI us, nI ob, fc, val, tm, mk, kd, par, num, ann, rcv, bod, mc, ml, mb, cd, cb, ce, org, co, cr, fn, fe, fp) t :=
  br_c (fun _ => br_t rfl hA) (fun h => br_t (hj.resolve_left h) (br_t rfl hA))
theorem oc_15 {l : Nat} (h : l < 16) : ¬ (15 : Int32) < nI l := nI_nlt (a := 15) (by omega) (by omega)
theorem oc_15' {t : Int32} (h : nI 16 ≤ t) : (15 : Int32) < t := by
  rw [Int32.lt_iff_toInt_lt]
  rw [Int32.le_iff_toInt_le, nI_toInt (by omega)] at h
  have : (15 : Int32).toInt = 15 := by decide
  omega
theorem oc_15l {l : Nat} (h : l < 16) : nI l ≤ (15 : Int32) := nI_le (b := 15) (by omega) (by omega)
theorem oc_15n {t : Int32} (h : nI 16 ≤ t) : ¬ t ≤ (15 : Int32) := fun q => absurd (oc_15' h) (Int32.not_lt.mpr q)
theorem oc_xL1 {A B : Prop} {l : Nat} (h : l < 16) (hB : B) : wpX_isLabel (fun r => (r = 0 → A) ∧ (¬ r = 0 → B)) () (nI l) :=
  br_f (nI_pos (by omega)) (br_f (oc_15 h) (br_f oc_10 hB))
theorem oc_xL0 {A B : Prop} {t : Int32} (h : t < 0 ∨ nI 16 ≤ t) (hA : A) : wpX_isLabel (fun r => (r = 0 → A) ∧ (¬ r = 0 → B)) () t :=
  br_c (fun _ => br_t rfl hA) (fun z => br_t (oc_15' (h.resolve_left z)) (br_t rfl hA))
theorem oc_la1 {A A' B : Prop} {l : Nat} (h : l < 16) (hB : B) : (nI l < 0 → A) ∧ (¬ nI l < 0 → ((15 < nI l → A') ∧ (¬ 15 < nI l → B))) :=
  br_f (nI_pos (by omega)) (br_f (oc_15 h) hB)
theorem oc_la0 {A B : Prop} {t : Int32} (h : t < 0 ∨ nI 16 ≤ t) (hA : A) : (t < 0 → A) ∧ (¬ t < 0 → ((15 < t → A) ∧ (¬ 15 < t → B))) :=
  br_c (fun _ => hA) (fun z => br_t (oc_15' (h.resolve_left z)) hA)
theorem oc_ix (x : Int32) {n : Nat} (hn : n ≤ 512) : (x < 0 ∨ nI n ≤ x) ∨ ∃ j : Nat, j < n ∧ x = nI j := by
  rcases pk_ix x (n := n) (by omega) with h | h | h
  · exact Or.inl (Or.inl h)
  · exact Or.inl (Or.inr h)
  · exact Or.inr h
/-- the cell of a type or an object and a label -/
theorem oc_i16 (a b : Nat) : nI a * 16 + nI b = nI (a * 16 + b) := by
  rw [show (16 : Int32) = nI 16 from rfl, pk_mul, nI_add]
theorem oc_i8 (a b : Nat) : nI a * 8 + nI b = nI (a * 8 + b) := by
  rw [show (8 : Int32) = nI 8 from rfl, pk_mul, nI_add]
theorem oc_v16 {a b : Nat} (ha : a < 32) (hb : b < 16) : vp_in (nI a * 16 + nI b) 512 := by
  rw [oc_i16]; exact vp_in_nI (by omega) (by omega)
theorem oc_k16 {a b : Nat} (ha : a < 32) (hb : b < 16) : (nI a * 16 + nI b).toNatClampNeg = a * 16 + b := by
  rw [oc_i16]; exact nI_clamp (by omega)
theorem oc_v8 {a b : Nat} (ha : a < 32) (hb : b < 8) : vp_in (nI a * 8 + nI b) 256 := by
  rw [oc_i8]; exact vp_in_nI (by omega) (by omega)
theorem oc_k8 {a b : Nat} (ha : a < 32) (hb : b < 8) : (nI a * 8 + nI b).toNatClampNeg = a * 8 + b := by
  rw [oc_i8]; exact nI_clamp (by omega)
end
section
theorem oc_xfl {NC TC tc nc us ob : Nat} {fail res fl fc val : Int32} {tm mk kd par num ann rcv bod mc ml mb cd cb ce org co cr fn fe fp : Nat → Int32} {post : Int32 → Prop} {a b : Nat} (ha : a < 32) (hb : b < 32) : ∀ d l, l + d = 16 →
    ((∀ l', l ≤ l' → l' < 16 → tm (b * 16 + l') = -1 ∨ tm (a * 16 + l') = tm (b * 16 + l')) → post 1) →
    ((¬ ∀ l', l ≤ l' → l' < 16 → tm (b * 16 + l') = -1 ∨ tm (a * 16 + l') = tm (b * 16 + l')) → post 0) →
    wX_fits_19 post (nI a) (nI b) (nI NC) (nI TC) (nI tc) (nI nc) fail res fl (nI us) (nI ob) fc val tm mk kd par num ann rcv bod mc ml mb cd cb ce org co cr fn fe fp (d + 1) (nI l) := by
  intro d
  induction d with
  | zero =>
    intro l hl h1 h0
    exact br_t (nI_le (a := 16) (by omega) (by omega)) (h1 fun l' x y => by omega)
  | succ d ih =>
    intro l hl h1 h0
    refine br_f (nI_ge (b := 16) (by omega) (by omega)) ⟨oc_v16 hb (by omega), nm_r (congrArg tm (oc_k16 hb (by omega))) ?_⟩
    by_cases z : tm (b * 16 + l) = -1
    · refine br_t z (nm_r (nI_1 l) (ih (l + 1) (by omega) (fun q => h1 fun l' x y => ?_) (fun q => h0 fun w => q fun l' x y => w l' (by omega) y)))
      by_cases e : l' = l
      · rw [e]; exact Or.inl z
      · exact q l' (by omega) y
    · refine br_f z ⟨oc_v16 ha (by omega), ?_⟩
      by_cases y : tm (a * 16 + l) = tm (b * 16 + l)
      · refine br_t (by rw [oc_k16 ha (by omega)]; exact y) (nm_r (nI_1 l) (ih (l + 1) (by omega) (fun q => h1 fun l' x y' => ?_) (fun q => h0 fun w => q fun l' x y' => w l' (by omega) y')))
        by_cases e : l' = l
        · rw [e]; exact Or.inr y
        · exact q l' (by omega) y'
      · exact br_f (by rw [oc_k16 ha (by omega)]; exact y) (h0 fun w => (w l (Nat.le_refl _) (by omega)).elim z y)
theorem oc_xfits {NC TC tc nc us ob : Nat} {fail res fl fc val : Int32} {tm mk kd par num ann rcv bod mc ml mb cd cb ce org co cr fn fe fp : Nat → Int32} {post : Int32 → Prop} {a b : Nat} (ha : a < 32) (hb : b < 32) (h1 : oc_sub tm a b → post 1) (h0 : ¬ oc_sub tm a b → post 0) : wpX_fits post (nI NC, nI TC, nI tc, nI nc, fail, res, fl, nI us, nI ob, fc, val, tm, mk, kd, par, num, ann, rcv, bod, mc, ml, mb, cd, cb, ce, org, co, cr, fn, fe, fp) (nI a) (nI b) := by
  refine pk_eq a b (fun e => h1 (Or.inl e)) (fun e => pk_eq b 0 (fun e0 => h1 (Or.inr (Or.inl e0))) (fun e0 => pk_eq a 0 (fun ea => h0 fun q => ?_) (fun ea => ⟨17, ?_⟩)))
  · rcases q with q | q | q
    · exact e q
    · exact e0 q
    · exact q.1 ea
  · refine oc_xfl ha hb 16 0 (by omega) (fun q => h1 (Or.inr (Or.inr ⟨ea, fun l hl => q l (Nat.zero_le _) hl⟩))) (fun q => h0 fun w => ?_)
    rcases w with w | w | w
    · exact e w
    · exact e0 w
    · exact q fun l _ hl => w.2 l hl
def oc_ext (tm : Nat → Int32) (t l m i : Nat) : Prop := tm (i * 16 + l) = nI m ∧ ∀ j, j < 16 → j ≠ l → tm (i * 16 + j) = tm (t * 16 + j)
theorem oc_xel {NC TC tc nc us ob : Nat} {fail res fl fc val : Int32} {tm mk kd par num ann rcv bod mc ml mb cd cb ce org co cr fn fe fp : Nat → Int32} {post : Int32 → Prop} {t l m i : Nat} (ht : t < 32) (hl : l < 16) (hi : i < 32) : ∀ d x, x + d = 16 →
    ((∀ j, x ≤ j → j < 16 → (j = l → tm (i * 16 + l) = nI m) ∧ (j ≠ l → tm (i * 16 + j) = tm (t * 16 + j))) → post 1) →
    ((¬ ∀ j, x ≤ j → j < 16 → (j = l → tm (i * 16 + l) = nI m) ∧ (j ≠ l → tm (i * 16 + j) = tm (t * 16 + j))) → post 0) →
    wX_isExtension_3 post (nI i) (nI t) (nI l) (nI m) (nI NC) (nI TC) (nI tc) (nI nc) fail res fl (nI us) (nI ob) fc val tm mk kd par num ann rcv bod mc ml mb cd cb ce org co cr fn fe fp (d + 1) (nI x) := by
  intro d
  induction d with
  | zero =>
    intro x hx h1 h0
    exact br_t (nI_le (a := 16) (by omega) (by omega)) (h1 fun l' x y => by omega)
  | succ d ih =>
    intro x hx h1 h0
    refine br_f (nI_ge (b := 16) (by omega) (by omega)) (pk_eq x l (fun e => ⟨oc_v16 hi (by omega), ?_⟩) (fun e => ⟨oc_v16 ht (by omega), oc_v16 hi (by omega), ?_⟩))
    · rw [oc_k16 hi (by omega), e]
      by_cases z : tm (i * 16 + l) = nI m
      · refine br_t z (nm_r (by rw [← e]; exact nI_1 x) (ih (x + 1) (by omega) (fun q => h1 fun j a b => ?_) (fun q => h0 fun w => q fun j a b => w j (by omega) b)))
        by_cases y : j = l
        · exact ⟨fun _ => z, fun n => absurd y n⟩
        · exact q j (by omega) b
      · exact br_f z (h0 fun w => z ((w l (by omega) hl).1 rfl))
    · rw [oc_k16 hi (by omega), oc_k16 ht (by omega)]
      by_cases z : tm (i * 16 + x) = tm (t * 16 + x)
      · refine br_t z (nm_r (nI_1 x) (ih (x + 1) (by omega) (fun q => h1 fun j a b => ?_) (fun q => h0 fun w => q fun j a b => w j (by omega) b)))
        by_cases y : j = x
        · rw [y]; exact ⟨fun n => absurd n e, fun _ => z⟩
        · exact q j (by omega) b
      · exact br_f z (h0 fun w => z ((w x (Nat.le_refl _) (by omega)).2 e))
theorem oc_xext {NC TC tc nc us ob : Nat} {fail res fl fc val : Int32} {tm mk kd par num ann rcv bod mc ml mb cd cb ce org co cr fn fe fp : Nat → Int32} {post : Int32 → Prop} {t l m i : Nat} (ht : t < 32) (hl : l < 16) (hi : i < 32) (h1 : oc_ext tm t l m i → post 1) (h0 : ¬ oc_ext tm t l m i → post 0) : wpX_isExtension post (nI NC, nI TC, nI tc, nI nc, fail, res, fl, nI us, nI ob, fc, val, tm, mk, kd, par, num, ann, rcv, bod, mc, ml, mb, cd, cb, ce, org, co, cr, fn, fe, fp) (nI i) (nI t) (nI l) (nI m) :=
  ⟨17, oc_xel ht hl hi 16 0 rfl (fun q => h1 ⟨(q l (Nat.zero_le _) hl).1 rfl, fun j hj ne => (q j (Nat.zero_le _) hj).2 ne⟩)
    (fun q => h0 fun w => q fun j _ hj => ⟨fun _ => w.1, fun ne => w.2 j hj ne⟩)⟩
theorem oc_xnew {NC TC tc nc us ob : Nat} {fail res fl fc val : Int32} {tm mk kd par num ann rcv bod mc ml mb cd cb ce org co cr fn fe fp : Nat → Int32} {post : Int32 → St2 → Prop} {t l : Nat} {m : Int32} (htc : tc < 32) (ht : t < tc) (hl : l < 16) (hmk : mk t = nI (oc_lc tm t)) (h : post (nI tc) (nI NC, nI TC, nI (tc + 1), nI nc, fail, res, fl, nI us, nI ob, fc, val, upd (oc_tc tm t tc 16) (tc * 16 + l) m, upd mk tc (nI (oc_lc tm t + 1)), kd, par, num, ann, rcv, bod, mc, ml, mb, cd, cb, ce, org, co, cr, fn, fe, fp)) : wpX_newType post (nI NC, nI TC, nI tc, nI nc, fail, res, fl, nI us, nI ob, fc, val, tm, mk, kd, par, num, ann, rcv, bod, mc, ml, mb, cd, cb, ce, org, co, cr, fn, fe, fp) (nI t) (nI l) m := by
  have key : ∀ d x, x + d = 16 → wX_newType_9 post (nI t) (nI l) m (nI tc) (nI NC) (nI TC) (nI tc) (nI nc) fail res fl (nI us) (nI ob) fc val (d + 1) (nI x) (oc_tc tm t tc x) mk kd par num ann rcv bod mc ml mb cd cb ce org co cr fn fe fp := by
    intro d
    induction d with
    | zero =>
      intro x hx
      rw [show x = 16 by omega]
      refine br_t (nI_le (a := 16) (by omega) (by omega)) ⟨oc_v16 htc hl, nm_e ⟨vp_in_nI (by omega) (by omega), vp_in_nI htc (by omega), nm_e (nm_e ?_)⟩⟩
      rw [oc_k16 htc hl, nI_clamp (n := tc) (by omega), nI_clamp (n := t) (by omega), hmk, nI_1, nI_1]
      exact h
    | succ d ih =>
      intro x hx
      refine br_f (nI_ge (b := 16) (by omega) (by omega)) ⟨oc_v16 (by omega) (by omega), oc_v16 htc (by omega), nm_e (nm_r (nI_1 x) ?_)⟩
      rw [oc_k16 htc (by omega), oc_k16 (by omega) (by omega)]
      exact ih (x + 1) (by omega)
  exact ⟨17, key 16 0 rfl⟩
theorem oc_xfind {NC TC tc nc us ob : Nat} {fail res fl fc val : Int32} {tm mk kd par num ann rcv bod mc ml mb cd cb ce org co cr fn fe fp : Nat → Int32} {post : Int32 → St2 → Prop} {t l m : Nat} (hTC : TC ≤ 32) (htc : tc ≤ TC) (ht : t < tc) (hl : l < 16) (hmk : mk t = nI (oc_lc tm t)) : ∀ d i, i + d = tc →
    (∀ j, i ≤ j → j < tc → oc_ext tm t l m j → (∀ j', i ≤ j' → j' < j → ¬ oc_ext tm t l m j') → post (nI j) (nI NC, nI TC, nI tc, nI nc, fail, res, fl, nI us, nI ob, fc, val, tm, mk, kd, par, num, ann, rcv, bod, mc, ml, mb, cd, cb, ce, org, co, cr, fn, fe, fp)) →
    ((∀ j, i ≤ j → j < tc → ¬ oc_ext tm t l m j) → (tc < TC → post (nI tc) (nI NC, nI TC, nI (tc + 1), nI nc, fail, res, fl, nI us, nI ob, fc, val, upd (oc_tc tm t tc 16) (tc * 16 + l) (nI m), upd mk tc (nI (oc_lc tm t + 1)), kd, par, num, ann, rcv, bod, mc, ml, mb, cd, cb, ce, org, co, cr, fn, fe, fp)) ∧ (¬ tc < TC → post (-1) (nI NC, nI TC, nI tc, nI nc, fail, res, fl, nI us, nI ob, fc, val, tm, mk, kd, par, num, ann, rcv, bod, mc, ml, mb, cd, cb, ce, org, co, cr, fn, fe, fp))) →
    wX_extendType_60 post (nI t) (nI l) (nI m) (nI NC) (nI TC) (nI tc) (nI nc) fail res fl (nI us) (nI ob) fc val tm mk kd par num ann rcv bod mc ml mb cd cb ce org co cr fn fe fp (d + 1) (nI i) := by
  intro d
  induction d with
  | zero =>
    intro i hi hf he
    have E := he fun j a b => by omega
    rw [show i = tc by omega]
    refine br_t (nI_le (Nat.le_refl _) (by omega)) (pk_lt tc TC (fun q => ?_) (fun q => E.2 (by omega)))
    exact oc_xnew (by omega) ht hl hmk (E.1 q)
  | succ d ih =>
    intro i hi hf he
    refine br_f (nI_ge (by omega) (by omega)) (oc_xext (by omega) hl (by omega) (fun q => br_f oc_10 (hf i (Nat.le_refl _) (by omega) q fun j' a b => by omega)) (fun q => br_t rfl (nm_r (nI_1 i) (ih (i + 1) (by omega) (fun j a b c g => hf j (by omega) b c fun j' x y => ?_) (fun w => he fun j x y => ?_)))))
    · by_cases z : j' = i
      · rw [z]; exact q
      · exact g j' (by omega) y
    · by_cases z : j = i
      · rw [z]; exact q
      · exact w j (by omega) y
end
section
theorem oc_xnode {NC TC tc nc us ob : Nat} {fail res fl fc val : Int32} {tm mk kd par num ann rcv bod mc ml mb cd cb ce org co cr fn fe fp : Nat → Int32} {post : Int32 → St2 → Prop} {p0 p1 p2 : Int32} (hn : nc < 32)
    (h : post (nI nc) (nI NC, nI TC, nI tc, nI (nc + 1), fail, res, fl, nI us, nI ob, fc, val, tm, mk, upd kd nc p0, upd par nc (-1), upd num nc p1, upd ann nc p2, upd rcv nc (-1), upd bod nc (-1), mc, ml, mb, cd, cb, ce, org, co, cr, fn, fe, fp)) : wpX_newNode post (nI NC, nI TC, nI tc, nI nc, fail, res, fl, nI us, nI ob, fc, val, tm, mk, kd, par, num, ann, rcv, bod, mc, ml, mb, cd, cb, ce, org, co, cr, fn, fe, fp) p0 p1 p2 := by
  have hi : vp_in (nI nc) 32 := vp_in_nI hn (by omega)
  refine ⟨hi, nm_e ⟨hi, nm_e ⟨hi, nm_e ⟨hi, nm_e ⟨hi, nm_e ⟨hi, nm_e (nm_e ?_)⟩⟩⟩⟩⟩⟩
  rw [nI_clamp (n := nc) (by omega), nI_1]
  exact h
theorem oc_xLo1 {NC TC tc nc us ob : Nat} {fail res fl fc val : Int32} {tm mk kd par num ann rcv bod mc ml mb cd cb ce org co cr fn fe fp : Nat → Int32} {A B : Prop} {j : Nat} (hj : j < nc) (ht : nc ≤ 32) (hp : par j = -1) (hB : B) : wpX_isLoose (fun r => (r = 0 → A) ∧ (¬ r = 0 → B)) (nI NC, nI TC, nI tc, nI nc, fail, res, fl, nI us, nI ob, fc, val, tm, mk, kd, par, num, ann, rcv, bod, mc, ml, mb, cd, cb, ce, org, co, cr, fn, fe, fp) (nI j) := by
  unfold wpX_isLoose
  refine oc_xN1 hj ht ⟨vp_in_nI (by omega) (by omega), ?_⟩
  rw [nI_clamp (n := j) (by omega)]
  exact br_t hp (br_f oc_10 hB)
theorem oc_xLo0 {NC TC tc nc us ob : Nat} {fail res fl fc val : Int32} {tm mk kd par num ann rcv bod mc ml mb cd cb ce org co cr fn fe fp : Nat → Int32} {A B : Prop} {t : Int32} (ht : nc ≤ 32) (h : (t < 0 ∨ nI nc ≤ t) ∨ ∃ j, j < nc ∧ t = nI j ∧ ¬ par j = -1) (hA : A) : wpX_isLoose (fun r => (r = 0 → A) ∧ (¬ r = 0 → B)) (nI NC, nI TC, nI tc, nI nc, fail, res, fl, nI us, nI ob, fc, val, tm, mk, kd, par, num, ann, rcv, bod, mc, ml, mb, cd, cb, ce, org, co, cr, fn, fe, fp) t := by
  unfold wpX_isLoose
  rcases h with h | ⟨j, hj, rfl, hp⟩
  · exact oc_xN0 h (br_t rfl hA)
  · refine oc_xN1 hj ht ⟨vp_in_nI (by omega) (by omega), ?_⟩
    rw [nI_clamp (n := j) (by omega)]
    exact br_f hp (br_t rfl hA)
theorem oc_xhas {NC TC tc nc us ob : Nat} {fail res fl fc val : Int32} {tm mk kd par num ann rcv bod mc ml mb cd cb ce org co cr fn fe fp : Nat → Int32} {post : Int32 → Prop} {o m l : Nat} (ho : o < 32) (hm : mc o = nI m) (hm8 : m ≤ 8) (h1 : (∃ i, i < m ∧ ml (o * 8 + i) = nI l) → post 1) (h0 : (¬ ∃ i, i < m ∧ ml (o * 8 + i) = nI l) → post 0) : wpX_hasMethod post (nI NC, nI TC, nI tc, nI nc, fail, res, fl, nI us, nI ob, fc, val, tm, mk, kd, par, num, ann, rcv, bod, mc, ml, mb, cd, cb, ce, org, co, cr, fn, fe, fp) (nI o) (nI l) := by
  have key : ∀ d i, i + d = m → (∀ i', i' < i → ¬ ml (o * 8 + i') = nI l) → wX_hasMethod_2 post (nI o) (nI l) (nI NC) (nI TC) (nI tc) (nI nc) fail res fl (nI us) (nI ob) fc val tm mk kd par num ann rcv bod mc ml mb cd cb ce org co cr fn fe fp (d + 1) (nI i) := by
    intro d
    induction d with
    | zero =>
      intro i hi hn
      refine ⟨vp_in_nI ho (by omega), ?_⟩
      rw [nI_clamp (n := o) (by omega), hm]
      exact br_t (nI_le (by omega) (by omega)) (h0 fun ⟨i', a, b⟩ => hn i' (by omega) b)
    | succ d ih =>
      intro i hi hn
      refine ⟨vp_in_nI ho (by omega), ?_⟩
      rw [nI_clamp (n := o) (by omega), hm]
      refine br_f (nI_ge (by omega) (by omega)) ⟨oc_v8 ho (by omega), ?_⟩
      rw [oc_k8 ho (by omega)]
      by_cases z : ml (o * 8 + i) = nI l
      · exact br_t z (h1 ⟨i, by omega, z⟩)
      · refine br_f z (nm_r (nI_1 i) (ih (i + 1) (by omega) fun i' a => ?_))
        by_cases y : i' = i
        · rw [y]; exact z
        · exact hn i' (by omega)
  exact ⟨m + 1, key m 0 (by omega) fun i' a => absurd a (Nat.not_lt_zero _)⟩
theorem oc_kd {nc tc : Nat} {kd par num ann rcv bod mc ml mb : Nat → Int32} (N : oc_Nd nc tc kd par num ann rcv bod mc ml mb) {n : Nat} (hn : n < nc) : kd n = 0 ∨ kd n = 1 ∨ kd n = 2 ∨ kd n = 3 := by
  obtain ⟨-, ⟨k, -⟩ | ⟨k, -⟩ | ⟨k, -⟩ | ⟨k, -⟩⟩ := N n hn
  · exact Or.inl k
  · exact Or.inr (Or.inl k)
  · exact Or.inr (Or.inr (Or.inl k))
  · exact Or.inr (Or.inr (Or.inr k))
end
section
def oc_in : Nat → Nat → Int32
  | 0 => fun _ => 0
  | i + 1 => upd (oc_in i) i (-1)
theorem oc_in_lt : ∀ i j, j < i → oc_in i j = -1
  | 0, _, h => absurd h (Nat.not_lt_zero _)
  | i + 1, j, h => by
    rw [oc_in]
    by_cases e : j = i
    · rw [e, pk_us]
    · rw [pk_un e]; exact oc_in_lt i j (by omega)
theorem oc_xbi {NC TC tc nc us ob : Nat} {fail res fl fc val : Int32} {tm mk kd par num ann rcv bod mc ml mb cd cb ce org co cr fn fe fp : Nat → Int32} {post : Int32 → Prop} {p n : Nat} (hp : p < 32) (h1 : kd p = 1 ∨ bod p = nI n → post 1) (h0 : ¬ (kd p = 1 ∨ bod p = nI n) → post 0) : wpX_bindsIn post (nI NC, nI TC, nI tc, nI nc, fail, res, fl, nI us, nI ob, fc, val, tm, mk, kd, par, num, ann, rcv, bod, mc, ml, mb, cd, cb, ce, org, co, cr, fn, fe, fp) (nI p) (nI n) := by
  have vp : vp_in (nI p) 32 := vp_in_nI hp (by omega)
  have e : (nI p).toNatClampNeg = p := nI_clamp (by omega)
  unfold wpX_bindsIn
  refine ⟨vp, ?_⟩
  rw [e]
  refine br_c (fun a => h1 (Or.inl a)) (fun a => ⟨vp, br_c (fun b => h1 (Or.inr b)) (fun b => h0 fun q => q.elim a b)⟩)
theorem oc_xbl {NC TC tc nc us ob : Nat} {fail res fl fc val : Int32} {tm mk kd par num ann rcv bod mc ml mb cd cb ce org co cr fn fe fp : Nat → Int32} {post : Int32 → Prop} {r : Nat} (hc : nc ≤ 32) (hr : r < nc) (hP : oc_Pa par nc) : ∀ f n k i, n < nc → k < 16 → i ≤ n → nc - n < f →
    (∀ p : Nat, p < nc → oc_bo par kd bod r n k = (p : Int) → post (nI p)) → ((∀ p : Nat, ¬ oc_bo par kd bod r n k = (p : Int)) → post (-1)) →
    wX_binderOf_13 post (nI r) (nI NC) (nI TC) (nI tc) (nI nc) fail res fl (nI us) (nI ob) fc val tm mk kd par num ann rcv bod mc ml mb cd cb ce org co cr fn fe fp f (nI k) (nI n) (nI i) := by
  intro f
  induction f with
  | zero => intro n k i a1 a2 a3 a4; omega
  | succ f ih =>
    intro n k i a1 a2 a3 a4 hf hn
    refine br_f (nI_ge (b := 32) (by omega) (by omega)) (pk_eq n r (fun e => hn fun p q => ?_) (fun e => ⟨vp_in_nI (by omega) (by omega), ?_⟩))
    · rw [e, oc_bo_r] at q; omega
    rw [nI_clamp (n := n) (by omega)]
    rcases hP n a1 with h | ⟨p, x1, x2, x3⟩
    · refine nm_r h (br_t rfl (hn fun p q => ?_))
      rw [oc_bo_n h e] at q; omega
    · refine nm_r x3 (br_f (oc_m1 (by omega)) (oc_xbi (by omega) (fun b => br_f oc_10 ?_) (fun b => br_t rfl (nm_r (nI_1 i) ?_))))
      · cases k with
        | zero =>
          refine br_t rfl (hf p x2 (oc_bo_0 x3 x1 (by omega) e b))
        | succ k =>
          refine br_f (nI_ne0 (by omega) (by omega)) (nm_r (pk_m1 k) (nm_r (nI_1 i) ?_))
          refine ih p k (i + 1) x2 (by omega) (by omega) (by omega) (fun p' y1 y2 => hf p' y1 ?_) (fun q => hn fun p' y => q p' ?_)
          · rw [oc_bo_1 x3 x1 (by omega) e b]; exact y2
          · rw [oc_bo_1 x3 x1 (by omega) e b] at y; exact y
      · refine ih p k (i + 1) x2 a2 (by omega) (by omega) (fun p' y1 y2 => hf p' y1 ?_) (fun q => hn fun p' y => q p' ?_)
        · rw [oc_bo_2 x3 x1 (by omega) e b]; exact y2
        · rw [oc_bo_2 x3 x1 (by omega) e b] at y; exact y
theorem oc_xbo {NC TC tc nc us ob : Nat} {fail res fl fc val : Int32} {tm mk kd par num ann rcv bod mc ml mb cd cb ce org co cr fn fe fp : Nat → Int32} {post : Int32 → Prop} {r n k : Nat} (hc : nc ≤ 32) (hr : r < nc) (hP : oc_Pa par nc) (hn : n < nc) (hk : k < 16) (ek : num n = nI k)
    (h1 : ∀ p : Nat, p < nc → oc_bo par kd bod r n k = (p : Int) → post (nI p)) (h0 : (∀ p : Nat, ¬ oc_bo par kd bod r n k = (p : Int)) → post (-1)) : wpX_binderOf post (nI NC, nI TC, nI tc, nI nc, fail, res, fl, nI us, nI ob, fc, val, tm, mk, kd, par, num, ann, rcv, bod, mc, ml, mb, cd, cb, ce, org, co, cr, fn, fe, fp) (nI n) (nI r) := by
  unfold wpX_binderOf
  refine ⟨vp_in_nI (by omega) (by omega), nm_r ?_ ⟨nc - n + 1, oc_xbl hc hr hP _ n k 0 hn hk (Nat.zero_le _) (by omega) h1 h0⟩⟩
  rw [nI_clamp (n := n) (by omega), ek]
theorem oc_bod {nc tc : Nat} {kd par num ann rcv bod mc ml mb : Nat → Int32} (N : oc_Nd nc tc kd par num ann rcv bod mc ml mb) {p n : Nat} (hp : p < nc) (hn : n < 2 ^ 31) (h : bod p = nI n) : kd p = 3 := by
  obtain ⟨-, ⟨k1, k2, -⟩ | ⟨k1, k2, -⟩ | ⟨k1, k2, -⟩ | ⟨k1, -⟩⟩ := N p hp
  · rw [k2] at h; exact absurd h (oc_m1' hn)
  · rw [k2] at h; exact absurd h (oc_m1' hn)
  · rw [k2] at h; exact absurd h (oc_m1' hn)
  · exact k1
theorem oc_xli {NC TC tc nc us ob : Nat} {fail res fl fc val : Int32} {tm mk kd par num ann rcv bod mc ml mb cd cb ce org co cr fn fe fp : Nat → Int32} {post : Int32 → Prop} {r n : Nat} (hc : nc ≤ 32) (hr : r < nc) (hP : oc_Pa par nc) (hn : n < nc) (h1 : oc_li par r n = true → post 1) (h0 : oc_li par r n = false → post 0) : wpX_liesIn post (nI NC, nI TC, nI tc, nI nc, fail, res, fl, nI us, nI ob, fc, val, tm, mk, kd, par, num, ann, rcv, bod, mc, ml, mb, cd, cb, ce, org, co, cr, fn, fe, fp) (nI n) (nI r) := by
  have key : ∀ f n i, n < nc → i ≤ n → nc - n + 1 < f → (oc_li par r n = true → post 1) → (oc_li par r n = false → post 0) → wX_liesIn_5 post (nI r) (nI NC) (nI TC) (nI tc) (nI nc) fail res fl (nI us) (nI ob) fc val tm mk kd par num ann rcv bod mc ml mb cd cb ce org co cr fn fe fp f (nI n) (nI i) := by
    intro f
    induction f with
    | zero => intro n i a1 a2 a3; omega
    | succ f ih =>
      intro n i a1 a2 a3 h1 h0
      refine br_f (nI_ge (b := 32) (by omega) (by omega)) (br_f (oc_m1 (by omega)) (pk_eq n r (fun e => h1 ?_) (fun e => ⟨vp_in_nI (by omega) (by omega), ?_⟩)))
      · rw [e]; exact oc_li_r _ _
      rw [nI_clamp (n := n) (by omega)]
      rcases hP n a1 with h | ⟨p, x1, x2, x3⟩
      · refine nm_r h (nm_r (nI_1 i) ?_)
        have q := h0 (oc_li_n h e)
        obtain ⟨g, rfl⟩ : ∃ g, f = g + 1 := ⟨f - 1, by omega⟩
        exact br_c (fun _ => q) (fun _ => br_t rfl q)
      · rw [oc_li_s x3 x1 (by omega) e] at h1 h0
        exact nm_r x3 (nm_r (nI_1 i) (ih p (i + 1) x2 (by omega) (by omega) h1 h0))
  exact ⟨nc - n + 2, key _ n 0 hn (Nat.zero_le _) (by omega) h1 h0⟩
def oc_Cl (nc : Nat) (par kd num bod : Nat → Int32) (r : Nat) : Prop := ∀ n, n < nc → kd n = 0 → ¬ oc_bo par kd bod r n (num n).toNatClampNeg = -1
theorem oc_var {nc tc : Nat} {kd par num ann rcv bod mc ml mb : Nat → Int32} (N : oc_Nd nc tc kd par num ann rcv bod mc ml mb) {n : Nat} (hn : n < nc) (h : kd n = 0) : ∃ k, k < 16 ∧ num n = nI k := by
  obtain ⟨-, ⟨k1, k2, k3⟩ | ⟨k1, -⟩ | ⟨k1, -⟩ | ⟨k1, -⟩⟩ := N n hn
  · exact k3
  · rw [h] at k1; exact absurd k1 (by decide)
  · rw [h] at k1; exact absurd k1 (by decide)
  · rw [h] at k1; exact absurd k1 (by decide)
theorem oc_xcl {NC TC tc nc us ob : Nat} {fail res fl fc val : Int32} {tm mk kd par num ann rcv bod mc ml mb cd cb ce org co cr fn fe fp : Nat → Int32} {post : Int32 → Prop} {r : Nat} (hc : nc ≤ 32) (hr : r < nc) (hN : oc_Nd nc tc kd par num ann rcv bod mc ml mb) (h1 : oc_Cl nc par kd num bod r → post 1) (h0 : ¬ oc_Cl nc par kd num bod r → post 0) : wpX_isClosed post (nI NC, nI TC, nI tc, nI nc, fail, res, fl, nI us, nI ob, fc, val, tm, mk, kd, par, num, ann, rcv, bod, mc, ml, mb, cd, cb, ce, org, co, cr, fn, fe, fp) (nI r) := by
  have hP := oc_Nd_Pa hN
  have key : ∀ d i, i + d = nc → (∀ n, n < i → kd n = 0 → ¬ oc_bo par kd bod r n (num n).toNatClampNeg = -1) → wX_isClosed_2 post (nI r) (nI NC) (nI TC) (nI tc) (nI nc) fail res fl (nI us) (nI ob) fc val tm mk kd par num ann rcv bod mc ml mb cd cb ce org co cr fn fe fp (d + 1) (nI i) := by
    intro d
    induction d with
    | zero =>
      intro i hi hq
      exact br_t (nI_le (by omega) (by omega)) (h1 fun n hn => hq n (by omega))
    | succ d ih =>
      intro i hi hq
      have nx : (kd i = 0 → ¬ oc_bo par kd bod r i (num i).toNatClampNeg = -1) → wX_isClosed_2 post (nI r) (nI NC) (nI TC) (nI tc) (nI nc) fail res fl (nI us) (nI ob) fc val tm mk kd par num ann rcv bod mc ml mb cd cb ce org co cr fn fe fp (d + 1) (nI (i + 1)) := fun w => ih (i + 1) (by omega) fun n hn => by
        by_cases e : n = i
        · rw [e]; exact w
        · exact hq n (by omega)
      refine br_f (nI_ge (by omega) (by omega)) ⟨vp_in_nI (by omega) (by omega), ?_⟩
      rw [nI_clamp (n := i) (by omega)]
      refine br_c (fun z => ?_) (fun z => nm_r (nI_1 i) (nx fun z' => absurd z' z))
      obtain ⟨k, hk, ek⟩ := oc_var hN (show i < nc by omega) z
      have ck : (num i).toNatClampNeg = k := by rw [ek, nI_clamp (by omega)]
      refine oc_xli hc hr hP (by omega) (fun hl => br_f oc_10 (oc_xbo hc hr hP (by omega) hk ek (fun p hp e => br_f (oc_m1 (by omega)) (nm_r (nI_1 i) (nx fun _ q => ?_))) (fun q => br_t rfl (h0 fun w => ?_)))) (fun hl => br_t rfl (nm_r (nI_1 i) (nx fun _ q => ?_)))
      · rw [ck, e] at q; omega
      · have w1 := w i (by omega) z
        rw [ck] at w1
        rcases oc_bo_3 (kd := kd) (bod := bod) (r := r) hP hc i (by omega) k with y | y | ⟨p, m, y1, y2, y3, y4⟩
        · exact w1 y
        · exact oc_bo_m2 hP hc i (by omega) k hl y
        · exact q p y3
      · have := oc_bo_li hP hc i (by omega) _ q
        rw [hl] at this
        exact absurd this (by decide)
  exact ⟨nc + 1, key nc 0 (by omega) fun n hn => absurd hn (Nat.not_lt_zero _)⟩
end
section
theorem oc_ng {x : Int32} (h : x < 0) : ¬ 0 ≤ x := Int32.not_le.mpr h
theorem oc_nn {x : Int32} (h : ¬ x < 0) : 0 ≤ x := Int32.not_lt.mp h
theorem oc_i8p (n i : Nat) : nI n * 8 + nI (i + 1) - 1 = nI (n * 8 + i) := by
  rw [oc_i8, ← Nat.add_assoc, nI_pred]
theorem oc_xhl {NC TC tc nc us ob : Nat} {fail res fl fc val : Int32} {tm mk kd par num ann rcv bod mc ml mb cd cb ce org co cr fn fe fp : Nat → Int32} {post : Int32 → Prop} {n A m : Nat} (hn : n < 32) (hA : A < 32) (hm : mc n = nI m) (hm8 : m ≤ 8) (hl : ∀ i, i < m → ∃ l, l < 16 ∧ ml (n * 8 + i) = nI l) (hmk : mk A = nI (oc_lc tm A))
    (h1 : oc_LM tm mc ml n A → post 1) (h0 : ¬ oc_LM tm mc ml n A → post 0) : wpX_hasLabelsOf post (nI NC, nI TC, nI tc, nI nc, fail, res, fl, nI us, nI ob, fc, val, tm, mk, kd, par, num, ann, rcv, bod, mc, ml, mb, cd, cb, ce, org, co, cr, fn, fe, fp) (nI n) (nI A) := by
  have vn : vp_in (nI n) 32 := vp_in_nI hn (by omega)
  have cn : (nI n).toNatClampNeg = n := nI_clamp (by omega)
  have cm : (mc n).toNatClampNeg = m := by rw [hm, nI_clamp (by omega)]
  have key : mc n = nI (oc_lc tm A) → ∀ d i, i + d = m → (∀ i', i' < i → ¬ tm (A * 16 + (ml (n * 8 + i')).toNatClampNeg) = -1) → wX_hasLabelsOf_19 post (nI n) (nI A) (nI NC) (nI TC) (nI tc) (nI nc) fail res fl (nI us) (nI ob) fc val tm mk kd par num ann rcv bod mc ml mb cd cb ce org co cr fn fe fp (d + 1) (nI i) := by
    intro em d
    induction d with
    | zero =>
      intro i hi hq
      refine ⟨vn, ?_⟩
      rw [cn, hm]
      exact br_t (nI_le (by omega) (by omega)) (h1 ⟨em, fun i' hi' => hq i' (by rw [cm] at hi'; omega)⟩)
    | succ d ih =>
      intro i hi hq
      obtain ⟨l, l1, l2⟩ := hl i (by omega)
      refine ⟨vn, ?_⟩
      rw [cn, hm]
      refine br_f (nI_ge (by omega) (by omega)) ⟨oc_v8 hn (by omega), ?_⟩
      rw [oc_k8 hn (by omega), l2]
      refine nm_e ⟨oc_v16 hA l1, ?_⟩
      rw [oc_k16 hA l1]
      by_cases z : tm (A * 16 + l) = -1
      · refine br_t z (h0 fun w => w.2 i (by rw [cm]; omega) ?_)
        rw [l2, nI_clamp (by omega)]; exact z
      · refine br_f z (nm_r (nI_1 i) (ih (i + 1) (by omega) fun i' hi' => ?_))
        by_cases y : i' = i
        · rw [y, l2, nI_clamp (by omega)]; exact z
        · exact hq i' (by omega)
  unfold wpX_hasLabelsOf
  refine ⟨vn, vp_in_nI hA (by omega), ?_⟩
  rw [cn, nI_clamp (n := A) (by omega), hmk]
  by_cases e : mc n = nI (oc_lc tm A)
  · exact br_t e ⟨m + 1, key e m 0 (by omega) fun i' hi' => absurd hi' (Nat.not_lt_zero _)⟩
  · exact br_f e (h0 fun w => e w.1)
theorem oc_xvd {NC TC tc nc us ob : Nat} {fail res fl fc val : Int32} {tm mk kd par num ann rcv bod mc ml mb cd cb ce org co cr fn fe fp : Nat → Int32} {post : Int32 → Prop} {r n : Nat} {ct v : Int32} (hc : nc ≤ 32) (htc : tc ≤ 32) (hr : r < nc) (hn : n < nc) (N : oc_Nd nc tc kd par num ann rcv bod mc ml mb) (Y : oc_Ty tc tm mk)
    (V : oc_Vd tc tm kd par num ann bod mc ml r n ct cd v) (h : post v) : wpX_verdictAt post (nI NC, nI TC, nI tc, nI nc, fail, res, fl, nI us, nI ob, fc, val, tm, mk, kd, par, num, ann, rcv, bod, mc, ml, mb, cd, cb, ce, org, co, cr, fn, fe, fp) (nI n) ct (nI r) := by
  have vn : vp_in (nI n) 32 := vp_in_nI (by omega) (by omega)
  have cn : (nI n).toNatClampNeg = n := nI_clamp (by omega)
  unfold wpX_verdictAt
  refine ⟨vn, ?_⟩
  rw [cn]
  rcases V with ⟨k1, V⟩ | ⟨k1, V⟩ | ⟨k1, V⟩ | ⟨k1, V⟩
  · refine nm_r k1 (br_f (by decide) (br_f (by decide) (br_t rfl ?_)))
    obtain ⟨k, hk, ek⟩ := oc_var N hn k1
    unfold oc_V0 at V
    rw [ek, nI_clamp (by omega)] at V
    unfold wpX_variableVerdict
    refine oc_xbo hc hr (oc_Nd_Pa N) hn hk ek (fun p hp e => br_f (oc_m1 (by omega)) ⟨vp_in_nI (by omega) (by omega), ?_⟩) (fun e => br_t rfl ?_)
    · rw [nI_clamp (n := p) (by omega)]
      rcases V with ⟨p', e1, e2⟩ | ⟨e1, e2⟩
      · have : p' = p := by rw [e] at e1; omega
        rw [← this, ← e2]; exact h
      · exact absurd e (e1 p)
    · rcases V with ⟨p', e1, e2⟩ | ⟨e1, e2⟩
      · exact absurd e1 (e p')
      · rw [← e2]; exact h
  · refine nm_r k1 (br_f (by decide) (br_f (by decide) (br_f (by decide) (br_t rfl ?_))))
    obtain ⟨-, ⟨q1, -⟩ | ⟨q1, q2, ⟨A, hA, eA⟩, m, w4, w5, w6, w7⟩ | ⟨q1, -⟩ | ⟨q1, -⟩⟩ := N n hn
    · rw [k1] at q1; exact absurd q1 (by decide)
    · have cm : (mc n).toNatClampNeg = m := by rw [w5, nI_clamp (by omega)]
      have cA : (ann n).toNatClampNeg = A := by rw [eA, nI_clamp (by omega)]
      unfold oc_V1 oc_Ok at V
      rw [cm, cA] at V
      unfold wpX_objectVerdict
      refine ⟨vn, ?_⟩
      rw [cn]
      refine nm_e ⟨vn, nm_e ?_⟩
      rcases V with ⟨x1, x2⟩ | ⟨x1, V⟩
      · exact br_t x1 (by rw [← x2]; exact h)
      refine br_f x1 ?_
      rw [eA]
      refine oc_xhl (by omega) (by omega) w5 w4 (fun i hi => ?_) (Y.2 A hA).1 (fun L => br_f oc_10 ?_) (fun L => br_t rfl ?_)
      · obtain ⟨l, b, y1, y2, -⟩ := w6 i hi
        exact ⟨l, y1, y2⟩
      · rcases V with ⟨x2, -⟩ | ⟨-, V⟩
        · exact absurd L x2
        have mem : ∀ i, i < m → ∃ l m', l < 16 ∧ ml (n * 8 + i) = nI l ∧ m' < tc ∧ tm (A * 16 + l) = nI m' := fun i hi => by
          obtain ⟨l, b, y1, y2, -⟩ := w6 i hi
          have y3 := L.2 i (by rw [cm]; exact hi)
          rw [y2, nI_clamp (by omega)] at y3
          rcases (Y.2 A hA).2 l y1 with y | ⟨m', y4, y5⟩
          · exact absurd y y3
          · exact ⟨l, m', y1, y2, y4, y5⟩
        have last : ∀ i, cd n = nI i → i ≤ m → ((i < m ∧ v = -100) ∨ (i = m ∧ v = ann n)) → wX_objectVerdict_78 post (nI n) (nI A) (cd n) (nI NC) (nI TC) (nI tc) (nI nc) fail res fl (nI us) (nI ob) fc val tm mk kd par num ann rcv bod mc ml mb cd cb ce org co cr fn fe fp := fun i ed hi w => by
          unfold wX_objectVerdict_78
          refine ⟨vn, ?_⟩
          rw [cn, w5, ed]
          refine pk_le m i (fun q => ?_) (fun q => ?_)
          · rcases w with ⟨a, -⟩ | ⟨-, b⟩
            · omega
            · rw [← eA, ← b]; exact h
          · rcases w with ⟨-, b⟩ | ⟨a, -⟩
            · rw [← b]; exact h
            · omega
        have step : ∀ i k, cd n = nI (i + 1) → i < m → k < tc → ct = nI k → (oc_sub tm k (tm (A * 16 + (ml (n * 8 + i)).toNatClampNeg)).toNatClampNeg → wX_objectVerdict_78 post (nI n) (nI A) (cd n) (nI NC) (nI TC) (nI tc) (nI nc) fail res fl (nI us) (nI ob) fc val tm mk kd par num ann rcv bod mc ml mb cd cb ce org co cr fn fe fp) → (¬ oc_sub tm k (tm (A * 16 + (ml (n * 8 + i)).toNatClampNeg)).toNatClampNeg → post (-7)) →
            (cd n ≤ 0 → wX_objectVerdict_78 post (nI n) (nI A) (cd n) (nI NC) (nI TC) (nI tc) (nI nc) fail res fl (nI us) (nI ob) fc val tm mk kd par num ann rcv bod mc ml mb cd cb ce org co cr fn fe fp) ∧ (¬ cd n ≤ 0 → (vp_in (nI n * 8 + cd n - 1) 256 ∧ ∀ x5 : Int32, x5 = ml (nI n * 8 + cd n - 1).toNatClampNeg → (vp_in (nI A * 16 + x5) 512 ∧ wpX_fits (fun r_45 => (r_45 = 0 → post (-7)) ∧ (¬ r_45 = 0 → wX_objectVerdict_78 post (nI n) (nI A) (cd n) (nI NC) (nI TC) (nI tc) (nI nc) fail res fl (nI us) (nI ob) fc val tm mk kd par num ann rcv bod mc ml mb cd cb ce org co cr fn fe fp)) (nI NC, nI TC, nI tc, nI nc, fail, res, fl, nI us, nI ob, fc, val, tm, mk, kd, par, num, ann, rcv, bod, mc, ml, mb, cd, cb, ce, org, co, cr, fn, fe, fp) ct (tm (nI A * 16 + x5).toNatClampNeg)))) := fun i k ed hi hk ek g1 g0 => by
          obtain ⟨l, m', y1, y2, y3, y4⟩ := mem i hi
          refine br_f (by rw [ed]; exact nI_nle (by omega) (by omega)) ⟨?_, ?_⟩
          · rw [ed, oc_i8p]; exact vp_in_nI (by omega) (by omega)
          · rw [show nI n * 8 + cd n - 1 = nI (n * 8 + i) by rw [ed, oc_i8p], nI_clamp (n := n * 8 + i) (by omega), y2]
            rw [y2, nI_clamp (n := l) (by omega), y4, nI_clamp (n := m') (by omega)] at g1 g0
            refine nm_e ⟨oc_v16 (by omega) y1, ?_⟩
            rw [oc_k16 (by omega) y1, y4, ek]
            exact oc_xfits (by omega) (by omega) (fun q => br_f oc_10 (g1 q)) (fun q => br_t rfl (g0 q))
        rcases V with ⟨i, k, x2, x3, x4, x5, x6, x7⟩ | ⟨i, x2, x3, x4, x5⟩
        · exact step i k x2 x3 x4 x5 (fun q => absurd q x6) (fun _ => by rw [← x7]; exact h)
        · rcases x4 with rfl | ⟨i', k, rfl, y2, y3, y4⟩
          · refine br_t (by rw [x2]; decide) (last 0 x2 x3 x5)
          · exact step i' k x2 (by omega) y2 y3 (fun _ => last (i' + 1) x2 x3 x5) (fun q => absurd y4 q)
      · rcases V with ⟨-, x3⟩ | ⟨x2, -⟩
        · rw [← x3]; exact h
        · exact absurd x2 L
    · rw [k1] at q1; exact absurd q1 (by decide)
    · rw [k1] at q1; exact absurd q1 (by decide)
  · refine nm_r k1 (br_f (by decide) (br_f (by decide) (br_f (by decide) (br_f (by decide) (br_t rfl ?_)))))
    obtain ⟨-, ⟨q1, -⟩ | ⟨q1, -⟩ | ⟨q1, q2, ⟨l, hl, el⟩, -⟩ | ⟨q1, -⟩⟩ := N n hn
    · rw [k1] at q1; exact absurd q1 (by decide)
    · rw [k1] at q1; exact absurd q1 (by decide)
    · unfold oc_V2 at V
      rw [el, nI_clamp (by omega)] at V
      unfold wpX_selectVerdict
      refine ⟨vn, ?_⟩
      rw [cn]
      rcases V with ⟨x1, x2⟩ | ⟨x1, V⟩
      · exact br_t x1 (by rw [← x2]; exact h)
      refine br_f x1 ?_
      rcases V with ⟨x2, x3⟩ | ⟨k, x2, x3, x4, V⟩
      · exact br_t x2 (by rw [← x3]; exact h)
      · rw [x4, el]
        refine br_f (nI_ne0 (by omega) (by omega)) ⟨vn, oc_v16 (by omega) hl, ?_⟩
        rw [oc_k16 (by omega) hl]
        rcases V with ⟨y1, y2⟩ | ⟨y1, y2⟩
        · exact nm_e (br_t y1 (by rw [← y2]; exact h))
        · exact nm_e (br_f y1 (by rw [← y2]; exact h))
    · rw [k1] at q1; exact absurd q1 (by decide)
  · refine nm_r k1 (br_f (by decide) (br_t (by decide) ?_))
    obtain ⟨-, ⟨q1, -⟩ | ⟨q1, -⟩ | ⟨q1, -⟩ | ⟨q1, ⟨l, hl, el⟩, ⟨A, hA, eA⟩, -⟩⟩ := N n hn
    · rw [k1] at q1; exact absurd q1 (by decide)
    · rw [k1] at q1; exact absurd q1 (by decide)
    · rw [k1] at q1; exact absurd q1 (by decide)
    · unfold oc_V3 at V
      rw [el, nI_clamp (n := l) (by omega), eA, nI_clamp (n := A) (by omega)] at V
      unfold wpX_updateVerdict
      refine ⟨vn, ?_⟩
      rw [cn, eA, el]
      rcases V with ⟨x1, x2⟩ | ⟨x1, V⟩
      · exact br_t x1 (by rw [← x2]; exact h)
      refine br_f x1 ⟨vn, nm_e ?_⟩
      rcases V with ⟨x2, x3⟩ | ⟨x2, V⟩
      · exact br_t x2 (by rw [← x3]; exact h)
      refine br_f x2 ⟨vn, oc_v16 (by omega) hl, ?_⟩
      rw [oc_k16 (by omega) hl]
      refine nm_e ?_
      rcases V with ⟨x3, x4⟩ | ⟨x3, k, x4, x5, V⟩
      · exact br_t x3 (by rw [← x4]; exact h)
      refine br_f x3 ⟨vn, ?_⟩
      rcases (Y.2 A hA).2 l hl with y | ⟨m', y1, y2⟩
      · exact absurd y x3
      rw [y2, nI_clamp (n := m') (by omega)] at V
      rw [y2, x5]
      rcases V with ⟨z1, z2, z3⟩ | ⟨z1, z2, z3⟩ | ⟨z1, z2, z3⟩ | ⟨z1, z2, z3⟩
      · exact br_t z1 (oc_xfits (by omega) (by omega) (fun _ => br_f oc_10 (by rw [← z3]; exact h)) (fun q => absurd z2 q))
      · exact br_t z1 (oc_xfits (by omega) (by omega) (fun q => absurd q z2) (fun _ => br_t rfl (by rw [← z3]; exact h)))
      · exact br_f z1 (oc_xfits (by omega) (by omega) (fun _ => br_f oc_10 (by rw [← z3]; exact h)) (fun q => absurd z2 q))
      · exact br_f z1 (oc_xfits (by omega) (by omega) (fun q => absurd q z2) (fun _ => br_t rfl (by rw [← z3]; exact h)))
theorem oc_xck {NC TC tc nc us ob : Nat} {fail res fl fc val : Int32} {tm mk kd par num ann rcv bod mc ml mb cd cb ce org co cr fn fe fp : Nat → Int32} {post : Int32 → St2 → Prop} {r : Nat} {rt rn : Nat → Int32} (hc : nc ≤ 32) (htc : tc ≤ 32) (hr : r < nc) (N : oc_Nd nc tc kd par num ann rcv bod mc ml mb) (Y : oc_Ty tc tm mk) (T : oc_Tab tc tm kd par num ann rcv bod mc ml mb r rt rn (r + 1))
    (hE : rt r < 0 → ∀ cd, post (rt r) (nI NC, nI TC, nI tc, nI nc, rn r, res, fl, nI us, nI ob, fc, val, tm, mk, kd, par, num, ann, rcv, bod, mc, ml, mb, cd, cb, ce, org, co, cr, fn, fe, fp)) (hR : ¬ rt r < 0 → ∀ cd, post (rt r) (nI NC, nI TC, nI tc, nI nc, -1, res, fl, nI us, nI ob, fc, val, tm, mk, kd, par, num, ann, rcv, bod, mc, ml, mb, cd, cb, ce, org, co, cr, fn, fe, fp)) : wpX_typeOfTerm post (nI NC, nI TC, nI tc, nI nc, -1, res, fl, nI us, nI ob, fc, val, tm, mk, kd, par, num, ann, rcv, bod, mc, ml, mb, cd, cb, ce, org, co, cr, fn, fe, fp) (nI r) := by
  unfold wpX_typeOfTerm
  refine ⟨vp_in_nI (by omega) (by omega), nm_e ⟨65, ?_⟩⟩
  rw [nI_clamp (n := r) (by omega)]
  have sz := oc_sz_n par nc r
  refine oc_dfs hc htc hr N Y T (fun f s n ct cd => wX_typeOfTerm_14 post (nI r) (nI NC) (nI TC) (nI tc) (nI nc) (-1) res fl (nI us) (nI ob) fc val f (nI n) ct (nI s) tm mk kd par num ann rcv bod mc ml mb cd cb ce org co cr fn fe fp) (fun v e cd => post v (nI NC, nI TC, nI tc, nI nc, e, res, fl, nI us, nI ob, fc, val, tm, mk, kd, par, num, ann, rcv, bod, mc, ml, mb, cd, cb, ce, org, co, cr, fn, fe, fp)) (fun v cd => post v (nI NC, nI TC, nI tc, nI nc, -1, res, fl, nI us, nI ob, fc, val, tm, mk, kd, par, num, ann, rcv, bod, mc, ml, mb, cd, cb, ce, org, co, cr, fn, fe, fp)) ?_ ?_ ?_ ?_ r (Nat.le_refl _) 65 0 (-1) (upd cd r 0) pk_us (by omega) (by omega) (Or.inl rfl) hE (fun a _ => hR a) (fun _ a => absurd rfl a)
  · intro f s n c ct cd hs hn hcn V hO hU hW
    refine br_f (nI_ge (b := 64) (by omega) (by omega)) (oc_xvd hc htc hr hn N Y V (br_t rfl ?_))
    have vn : vp_in (nI n) 32 := vp_in_nI (by omega) (by omega)
    have cn : (nI n).toNatClampNeg = n := nI_clamp (by omega)
    have go : vp_in (nI c) 32 ∧ ∀ y : Nat → Int32, y = upd cd (nI c).toNatClampNeg 0 → ∀ x : Int32, x = nI s + 1 → wX_typeOfTerm_14 post (nI r) (nI NC) (nI TC) (nI tc) (nI nc) (-1) res fl (nI us) (nI ob) fc val f (nI c) ct x tm mk kd par num ann rcv bod mc ml mb y cb ce org co cr fn fe fp := by
      refine ⟨vp_in_nI (by omega) (by omega), nm_e (nm_r (nI_1 s) ?_)⟩
      rw [nI_clamp (n := c) (by omega)]
      exact hW
    unfold wpX_nextChild
    refine ⟨vn, ?_⟩
    rw [cn]
    by_cases k1 : kd n = 1
    · obtain ⟨i, hi, e1, e2⟩ := hO k1
      refine br_t k1 ⟨vn, ?_⟩
      rw [e1]
      refine ⟨oc_v8 (by omega) hi, ?_⟩
      rw [oc_k8 (by omega) hi, e2]
      exact go
    · refine br_f k1 ⟨vn, ?_⟩
      by_cases z : cd n = 0
      · refine br_t z ⟨vn, ?_⟩
        rw [(hU k1).1 z]
        exact go
      · refine br_f z ⟨vn, ?_⟩
        rw [(hU k1).2 z]
        exact go
  · intro f s n ct cd v hs hn V h1 h2 h3
    exact br_f (nI_ge (b := 64) (by omega) (by omega)) (oc_xvd hc htc hr hn N Y V (br_f h2 (br_f (oc_ng h1) h3)))
  · intro f s ct cd v hs V h1 h2
    refine br_f (nI_ge (b := 64) (by omega) (by omega)) (oc_xvd hc htc hr hr N Y V (br_f (fun q => h1 ?_) (br_t (oc_nn h1) (br_t rfl h2))))
    rw [q]; decide
  · intro f s n p ct cd v hs hn hp ne ep V h1 h2
    have vn : vp_in (nI n) 32 := vp_in_nI (by omega) (by omega)
    have vp : vp_in (nI p) 32 := vp_in_nI (by omega) (by omega)
    refine br_f (nI_ge (b := 64) (by omega) (by omega)) (oc_xvd hc htc hr hn N Y V (br_f (fun q => h1 ?_) (br_t (oc_nn h1) (br_f (fun q => ne ((nI_eq (by omega) (by omega)).mp q)) ⟨vn, ?_⟩))))
    · rw [q]; decide
    · rw [nI_clamp (n := n) (by omega), ep]
      refine nm_e ⟨vp, vp, nm_e (nm_r (nI_1 s) ?_)⟩
      rw [nI_clamp (n := p) (by omega)]
      exact h2
end
section
theorem oc_xlv {NC TC tc nc us ob : Nat} {fail res fl val : Int32} {tm mk kd par num ann rcv bod mc ml mb cd cb ce org co cr fn fe fp : Nat → Int32} {post : Int32 → St2 → Prop} {q : Nat} {o : Int32} (h : post 0 (nI NC, nI TC, nI tc, nI nc, fail, res, fl, nI us, nI ob, nI q, o, tm, mk, kd, par, num, ann, rcv, bod, mc, ml, mb, cd, cb, ce, org, co, cr, fn, fe, fp)) : wpX_leaveWith post (nI NC, nI TC, nI tc, nI nc, fail, res, fl, nI us, nI ob, nI (q + 1), val, tm, mk, kd, par, num, ann, rcv, bod, mc, ml, mb, cd, cb, ce, org, co, cr, fn, fe, fp) o := nm_r (nI_pred q) h
theorem oc_xen1 {NC TC tc nc us ob : Nat} {fail res fl val : Int32} {tm mk kd par num ann rcv bod mc ml mb cd cb ce org co cr fn fe fp : Nat → Int32} {post : Int32 → St2 → Prop} {q : Nat} {n e : Int32} (hq : q < 48) (h : post 0 (nI NC, nI TC, nI tc, nI nc, fail, res, fl, nI us, nI ob, nI (q + 1), val, tm, mk, kd, par, num, ann, rcv, bod, mc, ml, mb, cd, cb, ce, org, co, cr, upd fn q n, upd fe q e, upd fp q 0)) : wpX_enter post (nI NC, nI TC, nI tc, nI nc, fail, res, fl, nI us, nI ob, nI q, val, tm, mk, kd, par, num, ann, rcv, bod, mc, ml, mb, cd, cb, ce, org, co, cr, fn, fe, fp) n e := by
  have vq : vp_in (nI q) 48 := vp_in_nI hq (by omega)
  unfold wpX_enter
  refine br_t (nI_lt (b := 48) hq (by omega)) ⟨vq, nm_e ⟨vq, nm_e ⟨vq, nm_e (nm_e ?_)⟩⟩⟩
  rw [nI_clamp (n := q) (by omega), nI_1]
  exact h
theorem oc_xen0 {NC TC tc nc us ob : Nat} {fail res fl val : Int32} {tm mk kd par num ann rcv bod mc ml mb cd cb ce org co cr fn fe fp : Nat → Int32} {post : Int32 → St2 → Prop} {q : Nat} {n e : Int32} (hq : 48 ≤ q) (hq2 : q < 2 ^ 31) (h : post 4 (nI NC, nI TC, nI tc, nI nc, fail, res, fl, nI us, nI ob, nI q, val, tm, mk, kd, par, num, ann, rcv, bod, mc, ml, mb, cd, cb, ce, org, co, cr, fn, fe, fp)) : wpX_enter post (nI NC, nI TC, nI tc, nI nc, fail, res, fl, nI us, nI ob, nI q, val, tm, mk, kd, par, num, ann, rcv, bod, mc, ml, mb, cd, cb, ce, org, co, cr, fn, fe, fp) n e := by
  unfold wpX_enter
  exact br_f (nI_nlt (b := 48) hq hq2) h
/-- a new object from a literal -/
theorem oc_xob {NC TC tc nc us ob : Nat} {fail res fl val : Int32} {tm mk kd par num ann rcv bod mc ml mb cd cb ce org co cr fn fe fp : Nat → Int32} {post : Int32 → St2 → Prop} {q n m : Nat} {e : Int32} (hn : n < 32) (hob : ob < 32) (hm : mc n = nI m) (hm8 : m ≤ 8) (hl : ∀ i, i < m → ∃ l, l < 16 ∧ ml (n * 8 + i) = nI l)
    (h : post 0 (nI NC, nI TC, nI tc, nI nc, fail, res, fl, nI us, nI (ob + 1), nI q, nI ob, tm, mk, kd, par, num, ann, rcv, bod, mc, ml, mb, cd, oc_mt (oc_fi cb ob (-1) 16) ml mb ob n m, oc_mt ce ml (fun _ => e) ob n m, upd org ob (ann n), co, cr, fn, fe, fp)) : wpX_advanceObject post (nI NC, nI TC, nI tc, nI nc, fail, res, fl, nI us, nI ob, nI (q + 1), val, tm, mk, kd, par, num, ann, rcv, bod, mc, ml, mb, cd, cb, ce, org, co, cr, fn, fe, fp) (nI n) e := by
  have vn : vp_in (nI n) 32 := vp_in_nI hn (by omega)
  have cn : (nI n).toNatClampNeg = n := nI_clamp (by omega)
  have key2 : ∀ d i, i + d = m → wX_advanceObject_70 post (nI n) e (nI ob) (nI NC) (nI TC) (nI tc) (nI nc) fail res fl (nI us) (nI (ob + 1)) (nI (q + 1)) val (d + 1) (nI i) tm mk kd par num ann rcv bod mc ml mb cd (oc_mt (oc_fi cb ob (-1) 16) ml mb ob n i) (oc_mt ce ml (fun _ => e) ob n i) (upd org ob (ann n)) co cr fn fe fp := by
    intro d
    induction d with
    | zero =>
      intro i hi
      refine ⟨vn, ?_⟩
      rw [cn, hm, show i = m by omega]
      exact br_t (nI_le (Nat.le_refl _) (by omega)) (oc_xlv h)
    | succ d ih =>
      intro i hi
      obtain ⟨l, l1, l2⟩ := hl i (by omega)
      refine ⟨vn, ?_⟩
      rw [cn, hm]
      refine br_f (nI_ge (by omega) (by omega)) (nm_r (oc_i8 n i) ?_)
      have v8 : vp_in (nI (n * 8 + i)) 256 := vp_in_nI (by omega) (by omega)
      refine ⟨v8, ?_⟩
      rw [nI_clamp (n := n * 8 + i) (by omega), l2]
      refine nm_r (oc_i16 ob l) ⟨v8, ?_⟩
      have v16 : vp_in (nI (ob * 16 + l)) 512 := vp_in_nI (by omega) (by omega)
      refine ⟨v16, nm_e ⟨v16, nm_e (nm_r (nI_1 i) ?_)⟩⟩
      have g := ih (i + 1) (by omega)
      unfold oc_mt at g
      rw [l2, nI_clamp (n := l) (by omega)] at g
      rw [nI_clamp (n := ob * 16 + l) (by omega)]
      exact g
  have key : ∀ d l, l + d = 16 → wX_advanceObject_41 post (nI n) e (nI ob) (nI NC) (nI TC) (nI tc) (nI nc) fail res fl (nI us) (nI (ob + 1)) (nI (q + 1)) val (d + 1) (nI l) tm mk kd par num ann rcv bod mc ml mb cd (oc_fi cb ob (-1) l) ce (upd org ob (ann n)) co cr fn fe fp := by
    intro d
    induction d with
    | zero =>
      intro l hl'
      rw [show l = 16 by omega]
      exact br_t (nI_le (a := 16) (by omega) (by omega)) ⟨m + 1, key2 m 0 (by omega)⟩
    | succ d ih =>
      intro l hl'
      refine br_f (nI_ge (b := 16) (by omega) (by omega)) ⟨oc_v16 hob (by omega), nm_e (nm_r (nI_1 l) ?_)⟩
      rw [oc_k16 hob (by omega)]
      exact ih (l + 1) (by omega)
  unfold wpX_advanceObject
  refine br_t (nI_lt (b := 32) hob (by omega)) (nm_r (nI_1 ob) ⟨vn, vp_in_nI hob (by omega), nm_e ?_⟩)
  rw [cn, nI_clamp (n := ob) (by omega)]
  exact ⟨17, key 16 0 rfl⟩
/-- a new object from an update -/
theorem oc_xud {NC TC tc nc us ob : Nat} {fail res fl : Int32} {tm mk kd par num ann rcv bod mc ml mb cd cb ce org co cr fn fe fp : Nat → Int32} {post : Int32 → St2 → Prop} {n l v q : Nat} {e : Int32} (hn : n < 32) (hob : ob < 32) (hv : v < ob) (hl : l < 16) (el : num n = nI l)
    (h : post 0 (nI NC, nI TC, nI tc, nI nc, fail, res, fl, nI us, nI (ob + 1), nI q, nI ob, tm, mk, kd, par, num, ann, rcv, bod, mc, ml, mb, cd, upd (oc_tc cb v ob 16) (ob * 16 + l) (bod n), upd (oc_tc ce v ob 16) (ob * 16 + l) e, upd org ob (ann n), co, cr, fn, fe, fp)) :
    ∃ n96 : Nat, wX_advanceUpdate_96 post (nI n) e (nI ob) (nI NC) (nI TC) (nI tc) (nI nc) fail res fl (nI us) (nI (ob + 1)) (nI (q + 1)) (nI v) n96 0 tm mk kd par num ann rcv bod mc ml mb cd cb ce (upd org ob (ann n)) co cr fn fe fp := by
  have vn : vp_in (nI n) 32 := vp_in_nI hn (by omega)
  have cn : (nI n).toNatClampNeg = n := nI_clamp (by omega)
  have key : ∀ d x, x + d = 16 → wX_advanceUpdate_96 post (nI n) e (nI ob) (nI NC) (nI TC) (nI tc) (nI nc) fail res fl (nI us) (nI (ob + 1)) (nI (q + 1)) (nI v) (d + 1) (nI x) tm mk kd par num ann rcv bod mc ml mb cd (oc_tc cb v ob x) (oc_tc ce v ob x) (upd org ob (ann n)) co cr fn fe fp := by
    intro d
    induction d with
    | zero =>
      intro x hx
      rw [show x = 16 by omega]
      refine br_t (nI_le (a := 16) (by omega) (by omega)) ⟨vn, ?_⟩
      rw [cn, el]
      have v16 : vp_in (nI (ob * 16 + l)) 512 := vp_in_nI (by omega) (by omega)
      refine nm_r (oc_i16 ob l) ⟨vn, v16, nm_e ⟨v16, nm_e ?_⟩⟩
      rw [nI_clamp (n := ob * 16 + l) (by omega)]
      exact oc_xlv h
    | succ d ih =>
      intro x hx
      refine br_f (nI_ge (b := 16) (by omega) (by omega)) ⟨oc_v16 (by omega) (by omega), oc_v16 hob (by omega), nm_e ⟨oc_v16 (by omega) (by omega), oc_v16 hob (by omega), nm_e (nm_r (nI_1 x) ?_)⟩⟩
      rw [oc_k16 hob (by omega), oc_k16 (a := v) (by omega) (by omega)]
      exact ih (x + 1) (by omega)
  exact ⟨17, key 16 0 rfl⟩
theorem oc_xa0 {NC TC tc nc us ob : Nat} {fail res fl val : Int32} {tm mk kd par num ann rcv bod mc ml mb cd cb ce org co cr fn fe fp : Nat → Int32} {post : Int32 → St2 → Prop} {q n : Nat} (hq : q < 48) (hn : n < 32) (en : fn q = nI n) (ek : kd n = 0) (h : ∃ f, wX_advanceVariable_5 post (nI n) (nI NC) (nI TC) (nI tc) (nI nc) fail res fl (nI us) (nI ob) (nI (q + 1)) val tm mk kd par num ann rcv bod mc ml mb cd cb ce org co cr fn fe fp f (fe q) 0) : wpX_advance post (nI NC, nI TC, nI tc, nI nc, fail, res, fl, nI us, nI ob, nI (q + 1), val, tm, mk, kd, par, num, ann, rcv, bod, mc, ml, mb, cd, cb, ce, org, co, cr, fn, fe, fp) := by
  have vq : vp_in (nI q) 48 := vp_in_nI hq (by omega)
  have vn : vp_in (nI n) 32 := vp_in_nI hn (by omega)
  unfold wpX_advance
  refine nm_r (nI_pred q) ⟨vq, ?_⟩
  rw [nI_clamp (n := q) (by omega), en]
  refine nm_e ⟨vq, nm_e ⟨vn, ?_⟩⟩
  rw [nI_clamp (n := n) (by omega)]
  exact nm_r ek (br_f (by decide) (br_f (by decide) (br_t rfl h)))
theorem oc_xa1 {NC TC tc nc us ob : Nat} {fail res fl val : Int32} {tm mk kd par num ann rcv bod mc ml mb cd cb ce org co cr fn fe fp : Nat → Int32} {post : Int32 → St2 → Prop} {q n : Nat} (hq : q < 48) (hn : n < 32) (en : fn q = nI n) (ek : kd n = 1) (h : wpX_advanceObject post (nI NC, nI TC, nI tc, nI nc, fail, res, fl, nI us, nI ob, nI (q + 1), val, tm, mk, kd, par, num, ann, rcv, bod, mc, ml, mb, cd, cb, ce, org, co, cr, fn, fe, fp) (nI n) (fe q)) : wpX_advance post (nI NC, nI TC, nI tc, nI nc, fail, res, fl, nI us, nI ob, nI (q + 1), val, tm, mk, kd, par, num, ann, rcv, bod, mc, ml, mb, cd, cb, ce, org, co, cr, fn, fe, fp) := by
  have vq : vp_in (nI q) 48 := vp_in_nI hq (by omega)
  have vn : vp_in (nI n) 32 := vp_in_nI hn (by omega)
  unfold wpX_advance
  refine nm_r (nI_pred q) ⟨vq, ?_⟩
  rw [nI_clamp (n := q) (by omega), en]
  refine nm_e ⟨vq, nm_e ⟨vn, ?_⟩⟩
  rw [nI_clamp (n := n) (by omega)]
  exact nm_r ek (br_f (by decide) (br_f (by decide) (br_f (by decide) (br_t rfl h))))
theorem oc_xa2 {NC TC tc nc us ob : Nat} {fail res fl val : Int32} {tm mk kd par num ann rcv bod mc ml mb cd cb ce org co cr fn fe fp : Nat → Int32} {post : Int32 → St2 → Prop} {q n : Nat} (hq : q < 48) (hn : n < 32) (en : fn q = nI n) (ek : kd n = 2) (h : wpX_advanceSelect post (nI NC, nI TC, nI tc, nI nc, fail, res, fl, nI us, nI ob, nI (q + 1), val, tm, mk, kd, par, num, ann, rcv, bod, mc, ml, mb, cd, cb, ce, org, co, cr, fn, fe, fp) (nI n) (fe q) (nI q)) : wpX_advance post (nI NC, nI TC, nI tc, nI nc, fail, res, fl, nI us, nI ob, nI (q + 1), val, tm, mk, kd, par, num, ann, rcv, bod, mc, ml, mb, cd, cb, ce, org, co, cr, fn, fe, fp) := by
  have vq : vp_in (nI q) 48 := vp_in_nI hq (by omega)
  have vn : vp_in (nI n) 32 := vp_in_nI hn (by omega)
  unfold wpX_advance
  refine nm_r (nI_pred q) ⟨vq, ?_⟩
  rw [nI_clamp (n := q) (by omega), en]
  refine nm_e ⟨vq, nm_e ⟨vn, ?_⟩⟩
  rw [nI_clamp (n := n) (by omega)]
  exact nm_r ek (br_f (by decide) (br_f (by decide) (br_f (by decide) (br_f (by decide) (br_t rfl h)))))
theorem oc_xa3 {NC TC tc nc us ob : Nat} {fail res fl val : Int32} {tm mk kd par num ann rcv bod mc ml mb cd cb ce org co cr fn fe fp : Nat → Int32} {post : Int32 → St2 → Prop} {q n : Nat} (hq : q < 48) (hn : n < 32) (en : fn q = nI n) (ek : kd n = 3) (h : wpX_advanceUpdate post (nI NC, nI TC, nI tc, nI nc, fail, res, fl, nI us, nI ob, nI (q + 1), val, tm, mk, kd, par, num, ann, rcv, bod, mc, ml, mb, cd, cb, ce, org, co, cr, fn, fe, fp) (nI n) (fe q) (nI q)) : wpX_advance post (nI NC, nI TC, nI tc, nI nc, fail, res, fl, nI us, nI ob, nI (q + 1), val, tm, mk, kd, par, num, ann, rcv, bod, mc, ml, mb, cd, cb, ce, org, co, cr, fn, fe, fp) := by
  have vq : vp_in (nI q) 48 := vp_in_nI hq (by omega)
  have vn : vp_in (nI n) 32 := vp_in_nI hn (by omega)
  unfold wpX_advance
  refine nm_r (nI_pred q) ⟨vq, ?_⟩
  rw [nI_clamp (n := q) (by omega), en]
  refine nm_e ⟨vq, nm_e ⟨vn, ?_⟩⟩
  rw [nI_clamp (n := n) (by omega)]
  exact nm_r ek (br_f (by decide) (br_t (by decide) h))
end
section
theorem oc_xs0 {NC TC tc nc us ob : Nat} {fail res fl val : Int32} {tm mk kd par num ann rcv bod mc ml mb cd cb ce org co cr fn fe fp : Nat → Int32} {post : Int32 → St2 → Prop} {q n : Nat} {e : Int32} (hq : q < 48) (hn : n < 32) (ep : fp q = 0)
    (h1 : q + 1 < 48 → post 0 (nI NC, nI TC, nI tc, nI nc, fail, res, fl, nI us, nI ob, nI (q + 2), val, tm, mk, kd, par, num, ann, rcv, bod, mc, ml, mb, cd, cb, ce, org, co, cr, upd fn (q + 1) (rcv n), upd fe (q + 1) e, upd (upd fp q 1) (q + 1) 0)) (h0 : ¬ q + 1 < 48 → post 4 (nI NC, nI TC, nI tc, nI nc, fail, res, fl, nI us, nI ob, nI (q + 1), val, tm, mk, kd, par, num, ann, rcv, bod, mc, ml, mb, cd, cb, ce, org, co, cr, fn, fe, upd fp q 1)) :
    wpX_advanceSelect post (nI NC, nI TC, nI tc, nI nc, fail, res, fl, nI us, nI ob, nI (q + 1), val, tm, mk, kd, par, num, ann, rcv, bod, mc, ml, mb, cd, cb, ce, org, co, cr, fn, fe, fp) (nI n) e (nI q) ∧ wpX_advanceUpdate post (nI NC, nI TC, nI tc, nI nc, fail, res, fl, nI us, nI ob, nI (q + 1), val, tm, mk, kd, par, num, ann, rcv, bod, mc, ml, mb, cd, cb, ce, org, co, cr, fn, fe, fp) (nI n) e (nI q) := by
  have vq : vp_in (nI q) 48 := vp_in_nI hq (by omega)
  have vn : vp_in (nI n) 32 := vp_in_nI hn (by omega)
  refine ⟨?_, ?_⟩
  · unfold wpX_advanceSelect
    refine ⟨vq, ?_⟩
    rw [nI_clamp (n := q) (by omega)]
    refine br_t ep ⟨vq, nm_e ⟨vn, ?_⟩⟩
    rw [nI_clamp (n := n) (by omega)]
    by_cases z : q + 1 < 48
    · exact oc_xen1 z (h1 z)
    · exact oc_xen0 (by omega) (by omega) (h0 z)
  · unfold wpX_advanceUpdate
    refine ⟨vq, ?_⟩
    rw [nI_clamp (n := q) (by omega)]
    refine br_t ep ⟨vq, nm_e ⟨vn, ?_⟩⟩
    rw [nI_clamp (n := n) (by omega)]
    by_cases z : q + 1 < 48
    · exact oc_xen1 z (h1 z)
    · exact oc_xen0 (by omega) (by omega) (h0 z)
theorem oc_xs2 {NC TC tc nc us ob : Nat} {fail res fl val : Int32} {tm mk kd par num ann rcv bod mc ml mb cd cb ce org co cr fn fe fp : Nat → Int32} {post : Int32 → St2 → Prop} {q n : Nat} {e : Int32} (hq : q < 48) (ep : fp q = 2) (h : post 0 (nI NC, nI TC, nI tc, nI nc, fail, res, fl, nI us, nI ob, nI q, val, tm, mk, kd, par, num, ann, rcv, bod, mc, ml, mb, cd, cb, ce, org, co, cr, fn, fe, fp)) : wpX_advanceSelect post (nI NC, nI TC, nI tc, nI nc, fail, res, fl, nI us, nI ob, nI (q + 1), val, tm, mk, kd, par, num, ann, rcv, bod, mc, ml, mb, cd, cb, ce, org, co, cr, fn, fe, fp) (nI n) e (nI q) := by
  have vq : vp_in (nI q) 48 := vp_in_nI hq (by omega)
  unfold wpX_advanceSelect
  refine ⟨vq, ?_⟩
  rw [nI_clamp (n := q) (by omega)]
  exact br_f (by rw [ep]; decide) ⟨vq, br_t ep (oc_xlv h)⟩
theorem oc_xs1 {NC TC tc nc us ob : Nat} {fail res : Int32} {tm mk kd par num ann rcv bod mc ml mb cd cb ce org co cr fn fe fp : Nat → Int32} {post : Int32 → St2 → Prop} {F q n l v : Nat} {e : Int32} (hF : F ≤ 128) (hus : us ≤ F) (hq : q < 48) (hn : n < 32) (hv : v < 32) (hl : l < 16) (ep : fp q = 1) (el : num n = nI l)
    (h1 : cb (v * 16 + l) = -1 → post 1 (nI NC, nI TC, nI tc, nI nc, fail, res, nI F, nI us, nI ob, nI (q + 1), nI v, tm, mk, kd, par, num, ann, rcv, bod, mc, ml, mb, cd, cb, ce, org, co, cr, fn, fe, fp)) (h3 : ¬ cb (v * 16 + l) = -1 → us = F → post 3 (nI NC, nI TC, nI tc, nI nc, fail, res, nI F, nI us, nI ob, nI (q + 1), nI v, tm, mk, kd, par, num, ann, rcv, bod, mc, ml, mb, cd, cb, ce, org, co, cr, fn, fe, fp))
    (h : ¬ cb (v * 16 + l) = -1 → us < F → q + 1 < 48 → post 0 (nI NC, nI TC, nI tc, nI nc, fail, res, nI F, nI (us + 1), nI ob, nI (q + 2), nI v, tm, mk, kd, par, num, ann, rcv, bod, mc, ml, mb, cd, cb, ce, org, upd co us (nI v), upd cr us (ce (v * 16 + l)), upd fn (q + 1) (cb (v * 16 + l)), upd fe (q + 1) (nI us), upd (upd fp q 2) (q + 1) 0))
    (h4 : ¬ cb (v * 16 + l) = -1 → us < F → ¬ q + 1 < 48 → post 4 (nI NC, nI TC, nI tc, nI nc, fail, res, nI F, nI (us + 1), nI ob, nI (q + 1), nI v, tm, mk, kd, par, num, ann, rcv, bod, mc, ml, mb, cd, cb, ce, org, upd co us (nI v), upd cr us (ce (v * 16 + l)), fn, fe, upd fp q 2)) :
    wpX_advanceSelect post (nI NC, nI TC, nI tc, nI nc, fail, res, nI F, nI us, nI ob, nI (q + 1), nI v, tm, mk, kd, par, num, ann, rcv, bod, mc, ml, mb, cd, cb, ce, org, co, cr, fn, fe, fp) (nI n) e (nI q) := by
  have vq : vp_in (nI q) 48 := vp_in_nI hq (by omega)
  have vn : vp_in (nI n) 32 := vp_in_nI hn (by omega)
  have v16 : vp_in (nI (v * 16 + l)) 512 := vp_in_nI (by omega) (by omega)
  have c16 : (nI (v * 16 + l)).toNatClampNeg = v * 16 + l := nI_clamp (by omega)
  unfold wpX_advanceSelect
  refine ⟨vq, ?_⟩
  rw [nI_clamp (n := q) (by omega)]
  refine br_f (by rw [ep]; decide) ⟨vq, br_f (by rw [ep]; decide) ⟨vn, ?_⟩⟩
  rw [nI_clamp (n := n) (by omega), el]
  refine nm_r (oc_i16 v l) ⟨v16, ?_⟩
  rw [c16]
  refine br_c (fun z => h1 z) (fun z => pk_lt us F (fun y => nm_r (nI_1 us) ?_) (fun y => h3 z (by omega)))
  have vu : vp_in (nI us) 128 := vp_in_nI (by omega) (by omega)
  refine ⟨vu, nm_e ⟨v16, vu, nm_e ⟨vq, nm_e ⟨v16, ?_⟩⟩⟩⟩
  rw [nI_clamp (n := us) (by omega)]
  by_cases w : q + 1 < 48
  · exact oc_xen1 w (h z y w)
  · exact oc_xen0 (by omega) (by omega) (h4 z y w)
theorem oc_xu1 {NC TC tc nc us ob : Nat} {fail res fl : Int32} {tm mk kd par num ann rcv bod mc ml mb cd cb ce org co cr fn fe fp : Nat → Int32} {post : Int32 → St2 → Prop} {q n l v : Nat} {e : Int32} (hob : ob ≤ 32) (hq : q < 48) (hn : n < 32) (hv : v < ob) (hl : l < 16) (ep : fp q = 1) (el : num n = nI l)
    (h2 : cb (v * 16 + l) = -1 → post 2 (nI NC, nI TC, nI tc, nI nc, fail, res, fl, nI us, nI ob, nI (q + 1), nI v, tm, mk, kd, par, num, ann, rcv, bod, mc, ml, mb, cd, cb, ce, org, co, cr, fn, fe, fp)) (h5 : ¬ cb (v * 16 + l) = -1 → ob = 32 → post 5 (nI NC, nI TC, nI tc, nI nc, fail, res, fl, nI us, nI ob, nI (q + 1), nI v, tm, mk, kd, par, num, ann, rcv, bod, mc, ml, mb, cd, cb, ce, org, co, cr, fn, fe, fp))
    (h : ¬ cb (v * 16 + l) = -1 → ob < 32 → post 0 (nI NC, nI TC, nI tc, nI nc, fail, res, fl, nI us, nI (ob + 1), nI q, nI ob, tm, mk, kd, par, num, ann, rcv, bod, mc, ml, mb, cd, upd (oc_tc cb v ob 16) (ob * 16 + l) (bod n), upd (oc_tc ce v ob 16) (ob * 16 + l) e, upd org ob (ann n), co, cr, fn, fe, fp)) :
    wpX_advanceUpdate post (nI NC, nI TC, nI tc, nI nc, fail, res, fl, nI us, nI ob, nI (q + 1), nI v, tm, mk, kd, par, num, ann, rcv, bod, mc, ml, mb, cd, cb, ce, org, co, cr, fn, fe, fp) (nI n) e (nI q) := by
  have vq : vp_in (nI q) 48 := vp_in_nI hq (by omega)
  have vn : vp_in (nI n) 32 := vp_in_nI hn (by omega)
  unfold wpX_advanceUpdate
  refine ⟨vq, ?_⟩
  rw [nI_clamp (n := q) (by omega)]
  refine br_f (by rw [ep]; decide) ⟨vn, ?_⟩
  rw [nI_clamp (n := n) (by omega), el]
  refine ⟨oc_v16 (by omega) hl, ?_⟩
  rw [oc_k16 (by omega) hl]
  refine br_c (fun z => h2 z) (fun z => pk_lt ob 32 (fun y => nm_r (nI_1 ob) ⟨vn, vp_in_nI (by omega) (by omega), nm_e ?_⟩) (fun y => h5 z (by omega)))
  rw [nI_clamp (n := ob) (by omega)]
  exact oc_xud hn y hv hl el (h z y)
end
section
/-! subtyping -/
theorem oc_sub_tr {tm : Nat → Int32} {a b c : Nat} (h1 : oc_sub tm a b) (h2 : oc_sub tm b c) : oc_sub tm a c := by
  rcases h2 with rfl | h | ⟨b0, hb⟩
  · exact h1
  · exact Or.inr (Or.inl h)
  · rcases h1 with rfl | h | ⟨a0, ha⟩
    · exact Or.inr (Or.inr ⟨b0, hb⟩)
    · exact absurd h b0
    · refine Or.inr (Or.inr ⟨a0, fun l hl => ?_⟩)
      rcases hb l hl with q | q
      · exact Or.inl q
      · rcases ha l hl with w | w
        · exact Or.inl (q.symm.trans w)
        · exact Or.inr (w.trans q)
theorem oc_sub_me {tm : Nat → Int32} {a b l : Nat} (h : oc_sub tm a b) (hb : ¬ b = 0) (hl : l < 16) (hm : ¬ tm (b * 16 + l) = -1) : tm (a * 16 + l) = tm (b * 16 + l) := by
  rcases h with rfl | h | ⟨a0, ha⟩
  · rfl
  · exact absurd h hb
  · exact (ha l hl).resolve_left hm
theorem oc_sub_n0 {tm : Nat → Int32} {a b : Nat} (h : oc_sub tm a b) (hb : ¬ b = 0) : ¬ a = 0 := by
  rcases h with rfl | h | ⟨a0, ha⟩
  · exact hb
  · exact absurd h hb
  · exact a0
/-! who has a parent is its child; the labels of a literal are apart -/
def oc_Kd (nc : Nat) (kd par rcv bod mc mb : Nat → Int32) : Prop := ∀ n p, n < nc → p < nc → par n = nI p →
  (kd p = 1 ∧ ∃ i, i < (mc p).toNatClampNeg ∧ mb (p * 8 + i) = nI n) ∨ (kd p = 2 ∧ rcv p = nI n) ∨ (kd p = 3 ∧ (rcv p = nI n ∨ bod p = nI n))
def oc_Ld (nc : Nat) (kd mc ml : Nat → Int32) : Prop := ∀ n, n < nc → kd n = 1 → ∀ i j, i < (mc n).toNatClampNeg → j < (mc n).toNatClampNeg → ml (n * 8 + i) = ml (n * 8 + j) → i = j
theorem oc_Kd_new {nc : Nat} {kd par rcv bod mc mb kd' par' rcv' bod' : Nat → Int32} (hc : nc ≤ 32) (h : oc_Kd nc kd par rcv bod mc mb)
    (e : ∀ n, n < nc → kd' n = kd n ∧ rcv' n = rcv n ∧ bod' n = bod n) (e0 : par' nc = -1)
    (ep : ∀ n, n < nc → par' n = par n ∨ (par' n = nI nc ∧ ((kd' nc = 2 ∧ rcv' nc = nI n) ∨ (kd' nc = 3 ∧ (rcv' nc = nI n ∨ bod' nc = nI n))))) (hp : ∀ n, n < nc → ¬ par n = nI nc) : oc_Kd (nc + 1) kd' par' rcv' bod' mc mb := fun n p hn hp1 hq => by
  by_cases z : n = nc
  · rw [z, e0] at hq; exact absurd hq (oc_m1' (by omega))
  have hn' : n < nc := by omega
  by_cases y : p = nc
  · subst y
    rcases ep n hn' with w | ⟨-, w⟩
    · rw [w] at hq; exact absurd hq (hp n hn')
    · exact Or.inr w
  · have hp' : p < nc := by omega
    obtain ⟨e1, e2, e3⟩ := e p hp'
    rcases ep n hn' with w | ⟨w, -⟩
    · rw [e1, e2, e3]
      exact h n p hn' hp' (by rw [← w]; exact hq)
    · rw [w, nI_eq (by omega) (by omega)] at hq
      omega
theorem oc_Kd_add {nc o b m : Nat} {kd par rcv bod mc mb : Nat → Int32} (hc : nc ≤ 32) (h : oc_Kd nc kd par rcv bod mc mb) (h8 : ∀ n, n < nc → kd n = 1 → (mc n).toNatClampNeg ≤ 8) (ho : o < nc) (hk : kd o = 1) (hb : b < o) (hm : mc o = nI m) (hm8 : m < 8) :
    oc_Kd nc kd (upd par b (nI o)) rcv bod (upd mc o (nI (m + 1))) (upd mb (o * 8 + m) (nI b)) := fun n p hn hp hq => by
  by_cases z : n = b
  · rw [z, pk_us, nI_eq (by omega) (by omega)] at hq
    subst hq
    refine Or.inl ⟨hk, m, ?_, by rw [pk_us, z]⟩
    rw [pk_us, nI_clamp (by omega)]
    omega
  · rw [pk_un z] at hq
    rcases h n p hn hp hq with ⟨w1, i, w2, w3⟩ | w | w
    · refine Or.inl ⟨w1, i, ?_, ?_⟩
      · by_cases y : p = o
        · rw [y, hm, nI_clamp (by omega)] at w2
          rw [y, pk_us, nI_clamp (by omega)]
          omega
        · rw [pk_un y]; exact w2
      · by_cases y : p * 8 + i = o * 8 + m
        · exfalso
          by_cases y' : p = o
          · rw [y', hm, nI_clamp (by omega)] at w2
            subst y'
            omega
          · have := h8 p hp w1
            omega
        · rw [pk_un y]; exact w3
    · exact Or.inr (Or.inl w)
    · exact Or.inr (Or.inr w)
theorem oc_Ld_new {nc : Nat} {kd mc ml kd' : Nat → Int32} (h : oc_Ld nc kd mc ml) (e : ∀ n, n < nc → kd' n = kd n) (h0 : mc nc = 0) : oc_Ld (nc + 1) kd' mc ml := fun n hn hk i j hi => by
  by_cases z : n = nc
  · rw [z, h0] at hi
    exact absurd hi (Nat.not_lt_zero _)
  · exact h n (by omega) (by rw [← e n (by omega)]; exact hk) i j hi
theorem oc_Ld_add {nc o m l : Nat} {kd mc ml : Nat → Int32} (hc : nc ≤ 32) (h : oc_Ld nc kd mc ml) (h8 : ∀ n, n < nc → kd n = 1 → (mc n).toNatClampNeg ≤ 8) (ho : o < nc) (hm : mc o = nI m) (hm8 : m < 8) (hl : ¬ ∃ i, i < m ∧ ml (o * 8 + i) = nI l) :
    oc_Ld nc kd (upd mc o (nI (m + 1))) (upd ml (o * 8 + m) (nI l)) := fun n hn hk i j hi hj he => by
  by_cases z : n = o
  · subst z
    rw [pk_us, nI_clamp (by omega)] at hi hj
    by_cases y : i = m
    · by_cases y' : j = m
      · omega
      · rw [y, pk_us, pk_un (by omega)] at he
        exact absurd ⟨j, by omega, he.symm⟩ hl
    · by_cases y' : j = m
      · rw [y', pk_us, pk_un (by omega)] at he
        exact absurd ⟨i, by omega, he⟩ hl
      · rw [pk_un (by omega), pk_un (by omega)] at he
        exact h n hn hk i j (by rw [hm, nI_clamp (by omega)]; omega) (by rw [hm, nI_clamp (by omega)]; omega) he
  · rw [pk_un z] at hi hj
    have := h8 n hn hk
    rw [pk_un (by omega), pk_un (by omega)] at he
    exact h n hn hk i j hi hj he
/-! every term has a table of types -/
theorem oc_OB_ex {tc : Nat} {tm ml mb rt rn : Nat → Int32} {n A m : Nat} (hA : A < tc) (hrt : ∀ i, i < m → rt (mb (n * 8 + i)).toNatClampNeg < 0 ∨ ∃ k, k < tc ∧ rt (mb (n * 8 + i)).toNatClampNeg = nI k) :
    ∀ d i, i + d = m → ∃ t e, oc_OB tm ml mb rt rn n A t e d i ∧ (t < 0 ∨ ∃ k, k < tc ∧ t = nI k) := by
  intro d
  induction d with
  | zero => intro i hi; exact ⟨nI A, -1, ⟨rfl, rfl⟩, Or.inr ⟨A, hA, rfl⟩⟩
  | succ d ih =>
    intro i hi
    by_cases z : rt (mb (n * 8 + i)).toNatClampNeg < 0
    · exact ⟨_, _, ⟨fun _ => ⟨rfl, rfl⟩, fun q => absurd z q⟩, Or.inl z⟩
    · rcases Classical.em (oc_sub tm (rt (mb (n * 8 + i)).toNatClampNeg).toNatClampNeg (tm (A * 16 + (ml (n * 8 + i)).toNatClampNeg)).toNatClampNeg) with s | s
      · obtain ⟨t, e, o1, o2⟩ := ih (i + 1) (by omega)
        exact ⟨t, e, ⟨fun q => absurd q z, fun _ => ⟨fun _ => o1, fun q => absurd s q⟩⟩, o2⟩
      · exact ⟨-7, nI n, ⟨fun q => absurd q z, fun _ => ⟨fun q => absurd q s, fun _ => ⟨rfl, rfl⟩⟩⟩, Or.inl (by decide)⟩
theorem oc_LT_ex {nc tc : Nat} {tm mk kd par num ann rcv bod mc ml mb : Nat → Int32} {r : Nat} {rt rn : Nat → Int32} {n : Nat} (hc : nc ≤ 32) (htc : tc ≤ 32) (hn : n < nc) (N : oc_Nd nc tc kd par num ann rcv bod mc ml mb) (Y : oc_Ty tc tm mk)
    (hrt : ∀ b, b < n → rt b < 0 ∨ ∃ k, k < tc ∧ rt b = nI k) : ∃ t e, oc_LT tm kd par num ann rcv bod mc ml mb r rt rn n t e ∧ (t < 0 ∨ ∃ k, k < tc ∧ t = nI k) := by
  obtain ⟨-, ⟨k1, k2, k, hk, ek⟩ | ⟨k1, k2, ⟨A, hA, eA⟩, m, w4, w5, w6, w7⟩ | ⟨k1, w2, ⟨l, hl, el⟩, a, w4, w5, w6⟩ | ⟨k1, ⟨l, hl, el⟩, ⟨A, hA, eA⟩, a, b, w4, w5, w6, w7, w8, w9, w10⟩⟩ := N n hn
  · have lt : ∀ t e, ((∀ p : Nat, oc_bo par kd bod r n (num n).toNatClampNeg = (p : Int) → t = ann p ∧ e = -1) ∧ ((∀ p : Nat, ¬ oc_bo par kd bod r n (num n).toNatClampNeg = (p : Int)) → t = -2 ∧ e = nI n)) → oc_LT tm kd par num ann rcv bod mc ml mb r rt rn n t e := fun t e w => by
      refine ⟨fun _ => w, fun z => ?_, fun z => ?_, fun z => ?_⟩ <;> (rw [k1] at z; exact absurd z (by decide))
    rcases oc_bo_3 (kd := kd) (bod := bod) (r := r) (oc_Nd_Pa N) hc n hn (num n).toNatClampNeg with h | h | ⟨p, m, h1, h2, h3, h4⟩
    · exact ⟨-2, nI n, lt _ _ ⟨fun p q => by rw [h] at q; omega, fun _ => ⟨rfl, rfl⟩⟩, Or.inl (by decide)⟩
    · exact ⟨-2, nI n, lt _ _ ⟨fun p q => by rw [h] at q; omega, fun _ => ⟨rfl, rfl⟩⟩, Or.inl (by decide)⟩
    · obtain ⟨A, hA, eA⟩ := oc_ann N h1 (by omega) h4
      refine ⟨ann p, -1, lt _ _ ⟨fun p' q => ?_, fun q => absurd h3 (q p)⟩, Or.inr ⟨A, hA, eA⟩⟩
      have : p' = p := by rw [h3] at q; omega
      rw [this]; exact ⟨rfl, rfl⟩
  · have lt : ∀ t e, ((ann n = 0 → t = -3 ∧ e = nI n) ∧ (¬ ann n = 0 → (¬ oc_LM tm mc ml n (ann n).toNatClampNeg → t = -5 ∧ e = nI n) ∧ (oc_LM tm mc ml n (ann n).toNatClampNeg → oc_OB tm ml mb rt rn n (ann n).toNatClampNeg t e (mc n).toNatClampNeg 0))) → oc_LT tm kd par num ann rcv bod mc ml mb r rt rn n t e := fun t e w => by
      refine ⟨fun z => ?_, fun _ => w, fun z => ?_, fun z => ?_⟩ <;> (rw [k1] at z; exact absurd z (by decide))
    by_cases a0 : ann n = 0
    · exact ⟨-3, nI n, lt _ _ ⟨fun _ => ⟨rfl, rfl⟩, fun q => absurd a0 q⟩, Or.inl (by decide)⟩
    rcases Classical.em (oc_LM tm mc ml n (ann n).toNatClampNeg) with L | L
    · have cA : (ann n).toNatClampNeg = A := by rw [eA, nI_clamp (by omega)]
      have cm : (mc n).toNatClampNeg = m := by rw [w5, nI_clamp (by omega)]
      obtain ⟨t, e, o1, o2⟩ := oc_OB_ex (tm := tm) (ml := ml) (mb := mb) (rt := rt) (rn := rn) (n := n) (A := (ann n).toNatClampNeg) (m := (mc n).toNatClampNeg) (by rw [cA]; exact hA) (fun i hi => by
        rw [cm] at hi
        obtain ⟨l, b, y1, y2, y3, y4, -⟩ := w6 i hi
        rw [y4, nI_clamp (by omega)]
        exact hrt b y3) (mc n).toNatClampNeg 0 (by omega)
      exact ⟨t, e, lt _ _ ⟨fun q => absurd q a0, fun _ => ⟨fun q => absurd L q, fun _ => o1⟩⟩, o2⟩
    · exact ⟨-5, nI n, lt _ _ ⟨fun q => absurd q a0, fun _ => ⟨fun _ => ⟨rfl, rfl⟩, fun q => absurd q L⟩⟩, Or.inl (by decide)⟩
  · have ca : (rcv n).toNatClampNeg = a := by rw [w5, nI_clamp (by omega)]
    have cl : (num n).toNatClampNeg = l := by rw [el, nI_clamp (by omega)]
    have lt : ∀ t e, ((rt a < 0 → t = rt a ∧ e = rn a) ∧ (¬ rt a < 0 → (rt a = 0 → t = -3 ∧ e = nI n) ∧ (¬ rt a = 0 → (tm ((rt a).toNatClampNeg * 16 + l) = -1 → t = -4 ∧ e = nI n) ∧ (¬ tm ((rt a).toNatClampNeg * 16 + l) = -1 → t = tm ((rt a).toNatClampNeg * 16 + l) ∧ e = -1)))) → oc_LT tm kd par num ann rcv bod mc ml mb r rt rn n t e := fun t e w => by
      refine ⟨fun z => ?_, fun z => ?_, fun _ => by rw [ca, cl]; exact w, fun z => ?_⟩ <;> (rw [k1] at z; exact absurd z (by decide))
    rcases hrt a w4 with z | ⟨k, z1, z2⟩
    · exact ⟨_, _, lt _ _ ⟨fun _ => ⟨rfl, rfl⟩, fun q => absurd z q⟩, Or.inl z⟩
    have nn : ¬ rt a < 0 := by rw [z2]; exact nI_pos (by omega)
    have ck : (rt a).toNatClampNeg = k := by rw [z2, nI_clamp (by omega)]
    rw [ck] at lt
    by_cases e0 : rt a = 0
    · exact ⟨-3, nI n, lt _ _ ⟨fun q => absurd q nn, fun _ => ⟨fun _ => ⟨rfl, rfl⟩, fun q => absurd e0 q⟩⟩, Or.inl (by decide)⟩
    rcases (Y.2 k z1).2 l hl with y | ⟨m', y1, y2⟩
    · exact ⟨-4, nI n, lt _ _ ⟨fun q => absurd q nn, fun _ => ⟨fun q => absurd q e0, fun _ => ⟨fun _ => ⟨rfl, rfl⟩, fun q => absurd y q⟩⟩⟩, Or.inl (by decide)⟩
    · have ny : ¬ tm (k * 16 + l) = -1 := by rw [y2]; exact oc_m1 (by omega)
      exact ⟨_, -1, lt _ _ ⟨fun q => absurd q nn, fun _ => ⟨fun q => absurd q e0, fun _ => ⟨fun q => absurd q ny, fun _ => ⟨rfl, rfl⟩⟩⟩⟩, Or.inr ⟨m', y1, y2⟩⟩
  · have ca : (rcv n).toNatClampNeg = a := by rw [w7, nI_clamp (by omega)]
    have cb : (bod n).toNatClampNeg = b := by rw [w8, nI_clamp (by omega)]
    have cl : (num n).toNatClampNeg = l := by rw [el, nI_clamp (by omega)]
    have cA : (ann n).toNatClampNeg = A := by rw [eA, nI_clamp (by omega)]
    have lt : ∀ t e, ((rt a < 0 → t = rt a ∧ e = rn a) ∧ (¬ rt a < 0 → (ann n = 0 → t = -3 ∧ e = nI n) ∧ (¬ ann n = 0 → (tm (A * 16 + l) = -1 → t = -4 ∧ e = nI n) ∧ (¬ tm (A * 16 + l) = -1 → (¬ oc_sub tm (rt a).toNatClampNeg A → t = -6 ∧ e = nI n) ∧ (oc_sub tm (rt a).toNatClampNeg A →
        (rt b < 0 → t = rt b ∧ e = rn b) ∧ (¬ rt b < 0 → (¬ oc_sub tm (rt b).toNatClampNeg (tm (A * 16 + l)).toNatClampNeg → t = -7 ∧ e = nI n) ∧ (oc_sub tm (rt b).toNatClampNeg (tm (A * 16 + l)).toNatClampNeg → t = ann n ∧ e = -1))))))) → oc_LT tm kd par num ann rcv bod mc ml mb r rt rn n t e := fun t e w => by
      refine ⟨fun z => ?_, fun z => ?_, fun z => ?_, fun _ => by rw [ca, cb, cl, cA]; exact w⟩ <;> (rw [k1] at z; exact absurd z (by decide))
    rcases hrt a w4 with z | ⟨k, z1, z2⟩
    · exact ⟨_, _, lt _ _ ⟨fun _ => ⟨rfl, rfl⟩, fun q => absurd z q⟩, Or.inl z⟩
    have nn : ¬ rt a < 0 := by rw [z2]; exact nI_pos (by omega)
    by_cases a0 : ann n = 0
    · exact ⟨-3, nI n, lt _ _ ⟨fun q => absurd q nn, fun _ => ⟨fun _ => ⟨rfl, rfl⟩, fun q => absurd a0 q⟩⟩, Or.inl (by decide)⟩
    by_cases y : tm (A * 16 + l) = -1
    · exact ⟨-4, nI n, lt _ _ ⟨fun q => absurd q nn, fun _ => ⟨fun q => absurd q a0, fun _ => ⟨fun _ => ⟨rfl, rfl⟩, fun q => absurd y q⟩⟩⟩, Or.inl (by decide)⟩
    rcases Classical.em (oc_sub tm (rt a).toNatClampNeg A) with s | s
    · rcases hrt b w5 with x | ⟨k', x1, x2⟩
      · exact ⟨_, _, lt _ _ ⟨fun q => absurd q nn, fun _ => ⟨fun q => absurd q a0, fun _ => ⟨fun q => absurd q y, fun _ => ⟨fun q => absurd s q, fun _ => ⟨fun _ => ⟨rfl, rfl⟩, fun q => absurd x q⟩⟩⟩⟩⟩, Or.inl x⟩
      · have nx : ¬ rt b < 0 := by rw [x2]; exact nI_pos (by omega)
        rcases Classical.em (oc_sub tm (rt b).toNatClampNeg (tm (A * 16 + l)).toNatClampNeg) with s2 | s2
        · exact ⟨_, -1, lt _ _ ⟨fun q => absurd q nn, fun _ => ⟨fun q => absurd q a0, fun _ => ⟨fun q => absurd q y, fun _ => ⟨fun q => absurd s q, fun _ => ⟨fun q => absurd q nx, fun _ => ⟨fun q => absurd s2 q, fun _ => ⟨rfl, rfl⟩⟩⟩⟩⟩⟩⟩, Or.inr ⟨A, hA, eA⟩⟩
        · exact ⟨-7, nI n, lt _ _ ⟨fun q => absurd q nn, fun _ => ⟨fun q => absurd q a0, fun _ => ⟨fun q => absurd q y, fun _ => ⟨fun q => absurd s q, fun _ => ⟨fun q => absurd q nx, fun _ => ⟨fun _ => ⟨rfl, rfl⟩, fun q => absurd q s2⟩⟩⟩⟩⟩⟩, Or.inl (by decide)⟩
    · exact ⟨-6, nI n, lt _ _ ⟨fun q => absurd q nn, fun _ => ⟨fun q => absurd q a0, fun _ => ⟨fun q => absurd q y, fun _ => ⟨fun _ => ⟨rfl, rfl⟩, fun q => absurd q s⟩⟩⟩⟩, Or.inl (by decide)⟩
theorem oc_Tab_ex {nc tc : Nat} {tm mk kd par num ann rcv bod mc ml mb : Nat → Int32} {r : Nat} (hc : nc ≤ 32) (htc : tc ≤ 32) (N : oc_Nd nc tc kd par num ann rcv bod mc ml mb) (Y : oc_Ty tc tm mk) : ∀ i, i ≤ nc → ∃ rt rn, oc_Tab tc tm kd par num ann rcv bod mc ml mb r rt rn i
  | 0, _ => ⟨fun _ => 0, fun _ => 0, fun n hn => absurd hn (Nat.not_lt_zero _)⟩
  | i + 1, hi => by
    obtain ⟨rt, rn, T⟩ := oc_Tab_ex (r := r) hc htc N Y i (by omega)
    obtain ⟨t, e, o1, o2⟩ := oc_LT_ex (r := r) (rn := rn) hc htc (show i < nc by omega) N Y (fun b hb => (T b hb).2)
    exact ⟨_, _, oc_Tab_up hc (by omega) N T o1 o2⟩
end
section
/-! what a type of a node says of its children -/
theorem oc_m8 {nc tc : Nat} {kd par num ann rcv bod mc ml mb : Nat → Int32} (N : oc_Nd nc tc kd par num ann rcv bod mc ml mb) : ∀ n, n < nc → kd n = 1 → (mc n).toNatClampNeg ≤ 8 := fun n hn hk => by
  obtain ⟨-, ⟨k1, -⟩ | ⟨k1, k2, k3, m, w4, w5, -⟩ | ⟨k1, -⟩ | ⟨k1, -⟩⟩ := N n hn
  · rw [hk] at k1; exact absurd k1 (by decide)
  · rw [w5, nI_clamp (by omega)]; exact w4
  · rw [hk] at k1; exact absurd k1 (by decide)
  · rw [hk] at k1; exact absurd k1 (by decide)
theorem oc_OB_ok {tm ml mb rt rn : Nat → Int32} {n A m : Nat} {t e : Int32} (ht : ¬ t < 0) : ∀ d i, i + d = m → oc_OB tm ml mb rt rn n A t e d i → t = nI A ∧ ∀ j, i ≤ j → j < m → ¬ rt (mb (n * 8 + j)).toNatClampNeg < 0 ∧ oc_sub tm (rt (mb (n * 8 + j)).toNatClampNeg).toNatClampNeg (tm (A * 16 + (ml (n * 8 + j)).toNatClampNeg)).toNatClampNeg := by
  intro d
  induction d with
  | zero => intro i hi h; exact ⟨h.1, fun j a b => by omega⟩
  | succ d ih =>
    intro i hi h
    unfold oc_OB at h
    have z : ¬ rt (mb (n * 8 + i)).toNatClampNeg < 0 := fun z => ht (by rw [(h.1 z).1]; exact z)
    have s : oc_sub tm (rt (mb (n * 8 + i)).toNatClampNeg).toNatClampNeg (tm (A * 16 + (ml (n * 8 + i)).toNatClampNeg)).toNatClampNeg := Classical.byContradiction fun s => ht (by rw [((h.2 z).2 s).1]; decide)
    obtain ⟨g1, g2⟩ := ih (i + 1) (by omega) ((h.2 z).1 s)
    refine ⟨g1, fun j a b => ?_⟩
    by_cases y : j = i
    · rw [y]; exact ⟨z, s⟩
    · exact g2 j (by omega) b
theorem oc_tO {nc tc : Nat} {tm mk kd par num ann rcv bod mc ml mb : Nat → Int32} {r n : Nat} {rt rn : Nat → Int32} (hc : nc ≤ 32) (htc : tc ≤ 32) (hr : r < nc) (N : oc_Nd nc tc kd par num ann rcv bod mc ml mb) (Y : oc_Ty tc tm mk) (T : oc_Tab tc tm kd par num ann rcv bod mc ml mb r rt rn (r + 1)) (hn : n ≤ r) (hk : kd n = 1) (ht : ¬ rt n < 0) :
    ∃ A m, A < tc ∧ ¬ A = 0 ∧ ann n = nI A ∧ rt n = nI A ∧ mc n = nI m ∧ m ≤ 8 ∧ oc_LM tm mc ml n A ∧ ∀ i, i < m → ∃ l b u m', l < 16 ∧ ml (n * 8 + i) = nI l ∧ b < n ∧ mb (n * 8 + i) = nI b ∧ par b = nI n ∧ u < tc ∧ rt b = nI u ∧ m' < tc ∧ tm (A * 16 + l) = nI m' ∧ oc_sub tm u m' := by
  have hT := T n (by omega)
  obtain ⟨-, ⟨k1, -⟩ | ⟨k1, k2, ⟨A, hA, eA⟩, m, w4, w5, w6, w7⟩ | ⟨k1, -⟩ | ⟨k1, -⟩⟩ := N n (by omega)
  · rw [hk] at k1; exact absurd k1 (by decide)
  · have g := hT.1.2.1 hk
    have cA : (ann n).toNatClampNeg = A := by rw [eA, nI_clamp (by omega)]
    have cm : (mc n).toNatClampNeg = m := by rw [w5, nI_clamp (by omega)]
    have a0 : ¬ ann n = 0 := fun q => ht (by rw [(g.1 q).1]; decide)
    have g2 := g.2 a0
    rw [cA, cm] at g2
    have L : oc_LM tm mc ml n A := Classical.byContradiction fun q => ht (by rw [(g2.1 q).1]; decide)
    obtain ⟨o1, o2⟩ := oc_OB_ok (m := m) ht m 0 (by omega) (g2.2 L)
    refine ⟨A, m, hA, fun q => a0 (by rw [eA, q, nI_0]), eA, o1, w5, w4, L, fun i hi => ?_⟩
    obtain ⟨l, b, y1, y2, y3, y4, y5⟩ := w6 i hi
    obtain ⟨z1, z2⟩ := o2 i (Nat.zero_le _) hi
    have y6 := L.2 i (by rw [cm]; exact hi)
    rw [y2, nI_clamp (by omega)] at y6 z2
    rw [y4, nI_clamp (by omega)] at z1 z2
    rcases (Y.2 A hA).2 l y1 with q | ⟨m', q1, q2⟩
    · exact absurd q y6
    rcases (T b (by omega)).2 with q | ⟨u, u1, u2⟩
    · exact absurd q z1
    rw [u2, q2, nI_clamp (by omega), nI_clamp (by omega)] at z2
    exact ⟨l, b, u, m', y1, y2, y3, y4, y5, u1, u2, q1, q2, z2⟩
  · rw [hk] at k1; exact absurd k1 (by decide)
  · rw [hk] at k1; exact absurd k1 (by decide)
theorem oc_tS {nc tc : Nat} {tm mk kd par num ann rcv bod mc ml mb : Nat → Int32} {r n : Nat} {rt rn : Nat → Int32} (hc : nc ≤ 32) (htc : tc ≤ 32) (hr : r < nc) (N : oc_Nd nc tc kd par num ann rcv bod mc ml mb) (Y : oc_Ty tc tm mk) (T : oc_Tab tc tm kd par num ann rcv bod mc ml mb r rt rn (r + 1)) (hn : n ≤ r) (hk : kd n = 2) (ht : ¬ rt n < 0) :
    ∃ l a k m', l < 16 ∧ num n = nI l ∧ bod n = -1 ∧ a < n ∧ rcv n = nI a ∧ par a = nI n ∧ k < tc ∧ ¬ k = 0 ∧ rt a = nI k ∧ m' < tc ∧ tm (k * 16 + l) = nI m' ∧ rt n = nI m' := by
  have hT := T n (by omega)
  obtain ⟨-, ⟨k1, -⟩ | ⟨k1, -⟩ | ⟨k1, w2, ⟨l, hl, el⟩, a, w4, w5, w6⟩ | ⟨k1, -⟩⟩ := N n (by omega)
  · rw [hk] at k1; exact absurd k1 (by decide)
  · rw [hk] at k1; exact absurd k1 (by decide)
  · have g := hT.1.2.2.1 hk
    rw [w5, nI_clamp (by omega), el, nI_clamp (by omega)] at g
    have z : ¬ rt a < 0 := fun z => ht (by rw [(g.1 z).1]; exact z)
    have g2 := g.2 z
    have z0 : ¬ rt a = 0 := fun q => ht (by rw [(g2.1 q).1]; decide)
    have g3 := g2.2 z0
    rcases (T a (by omega)).2 with q | ⟨k, u1, u2⟩
    · exact absurd q z
    rw [u2, nI_clamp (by omega)] at g3
    have zm : ¬ tm (k * 16 + l) = -1 := fun q => ht (by rw [(g3.1 q).1]; decide)
    rcases (Y.2 k u1).2 l hl with q | ⟨m', q1, q2⟩
    · exact absurd q zm
    exact ⟨l, a, k, m', hl, el, w2, w4, w5, w6, u1, fun q => z0 (by rw [u2, q, nI_0]), u2, q1, q2, by rw [(g3.2 zm).1, q2]⟩
  · rw [hk] at k1; exact absurd k1 (by decide)
theorem oc_tU {nc tc : Nat} {tm mk kd par num ann rcv bod mc ml mb : Nat → Int32} {r n : Nat} {rt rn : Nat → Int32} (hc : nc ≤ 32) (htc : tc ≤ 32) (hr : r < nc) (N : oc_Nd nc tc kd par num ann rcv bod mc ml mb) (Y : oc_Ty tc tm mk) (T : oc_Tab tc tm kd par num ann rcv bod mc ml mb r rt rn (r + 1)) (hn : n ≤ r) (hk : kd n = 3) (ht : ¬ rt n < 0) :
    ∃ l a b A k u m', l < 16 ∧ num n = nI l ∧ a < n ∧ b < n ∧ a ≠ b ∧ rcv n = nI a ∧ bod n = nI b ∧ par a = nI n ∧ par b = nI n ∧ A < tc ∧ ¬ A = 0 ∧ ann n = nI A ∧ rt n = nI A ∧ k < tc ∧ rt a = nI k ∧ oc_sub tm k A ∧ u < tc ∧ rt b = nI u ∧ m' < tc ∧ tm (A * 16 + l) = nI m' ∧ oc_sub tm u m' := by
  have hT := T n (by omega)
  obtain ⟨-, ⟨k1, -⟩ | ⟨k1, -⟩ | ⟨k1, -⟩ | ⟨k1, ⟨l, hl, el⟩, ⟨A, hA, eA⟩, a, b, w4, w5, w6, w7, w8, w9, w10⟩⟩ := N n (by omega)
  · rw [hk] at k1; exact absurd k1 (by decide)
  · rw [hk] at k1; exact absurd k1 (by decide)
  · rw [hk] at k1; exact absurd k1 (by decide)
  · have g := hT.1.2.2.2 hk
    have cA : (ann n).toNatClampNeg = A := by rw [eA, nI_clamp (by omega)]
    rw [w7, nI_clamp (n := a) (by omega), w8, nI_clamp (n := b) (by omega), el, nI_clamp (n := l) (by omega), cA] at g
    have z : ¬ rt a < 0 := fun z => ht (by rw [(g.1 z).1]; exact z)
    have g2 := g.2 z
    have a0 : ¬ ann n = 0 := fun q => ht (by rw [(g2.1 q).1]; decide)
    have g3 := g2.2 a0
    have zm : ¬ tm (A * 16 + l) = -1 := fun q => ht (by rw [(g3.1 q).1]; decide)
    have g4 := g3.2 zm
    have s : oc_sub tm (rt a).toNatClampNeg A := Classical.byContradiction fun q => ht (by rw [(g4.1 q).1]; decide)
    have g5 := g4.2 s
    have zb : ¬ rt b < 0 := fun z => ht (by rw [(g5.1 z).1]; exact z)
    have g6 := g5.2 zb
    have s2 : oc_sub tm (rt b).toNatClampNeg (tm (A * 16 + l)).toNatClampNeg := Classical.byContradiction fun q => ht (by rw [(g6.1 q).1]; decide)
    rcases (T a (by omega)).2 with q | ⟨k, u1, u2⟩
    · exact absurd q z
    rcases (T b (by omega)).2 with q | ⟨u, v1, v2⟩
    · exact absurd q zb
    rcases (Y.2 A hA).2 l hl with q | ⟨m', q1, q2⟩
    · exact absurd q zm
    have g7 := (g6.2 s2).1
    rw [u2, nI_clamp (by omega)] at s
    rw [v2, q2, nI_clamp (by omega), nI_clamp (by omega)] at s2
    exact ⟨l, a, b, A, k, u, m', hl, el, w4, w5, w6, w7, w8, w9, w10, hA, fun q => a0 (by rw [eA, q, nI_0]), eA, by rw [g7, eA], u1, u2, s, v1, v2, q1, q2, s2⟩
theorem oc_tV {nc tc : Nat} {tm kd par num ann rcv bod mc ml mb : Nat → Int32} {r n : Nat} {rt rn : Nat → Int32} (hc : nc ≤ 32) (htc : tc ≤ 32) (hr : r < nc) (N : oc_Nd nc tc kd par num ann rcv bod mc ml mb) (T : oc_Tab tc tm kd par num ann rcv bod mc ml mb r rt rn (r + 1)) (hn : n ≤ r) (hk : kd n = 0) (ht : ¬ rt n < 0) :
    ∃ k p A, k < 16 ∧ num n = nI k ∧ p < nc ∧ oc_bo par kd bod r n k = (p : Int) ∧ A < tc ∧ ann p = nI A ∧ rt n = nI A := by
  have hT := T n (by omega)
  obtain ⟨k, k1, k2⟩ := oc_var N (show n < nc by omega) hk
  have g := hT.1.1 hk
  rw [k2, nI_clamp (by omega)] at g
  rcases oc_bo_3 (kd := kd) (bod := bod) (r := r) (oc_Nd_Pa N) hc n (by omega) k with h | h | ⟨p, m, h1, h2, h3, h4⟩
  · exact absurd (by rw [(g.2 fun p q => by rw [h] at q; omega).1]; decide) ht
  · exact absurd (by rw [(g.2 fun p q => by rw [h] at q; omega).1]; decide) ht
  · obtain ⟨A, hA, eA⟩ := oc_ann N h1 (by omega) h4
    exact ⟨k, p, A, k1, k2, h1, h3, hA, eA, by rw [(g.1 p h3).1, eA]⟩
/-- in an accepted term every node is typed -/
theorem oc_tA {nc tc : Nat} {tm mk kd par num ann rcv bod mc ml mb : Nat → Int32} {r : Nat} {rt rn : Nat → Int32} (hc : nc ≤ 32) (htc : tc ≤ 32) (hr : r < nc) (N : oc_Nd nc tc kd par num ann rcv bod mc ml mb) (Y : oc_Ty tc tm mk) (D : oc_Kd nc kd par rcv bod mc mb) (T : oc_Tab tc tm kd par num ann rcv bod mc ml mb r rt rn (r + 1)) (ht : ¬ rt r < 0) :
    ∀ n, n < nc → oc_li par r n = true → ¬ rt n < 0 := by
  refine oc_up fun n hn ih hl => ?_
  by_cases e : n = r
  · rw [e]; exact ht
  rcases oc_Nd_Pa N n hn with h | ⟨p, h1, h2, h3⟩
  · rw [oc_li_n h e] at hl; exact absurd hl (by decide)
  rw [oc_li_s h3 h1 (by omega) e] at hl
  have tp := ih p h1 h2 hl
  have le := oc_li_le (oc_Nd_Pa N) hc p h2 hl
  rcases D n p hn h2 h3 with ⟨k1, i, i1, i2⟩ | ⟨k1, i2⟩ | ⟨k1, i2⟩
  · obtain ⟨A, m, -, -, -, -, w5, w6, -, w8⟩ := oc_tO hc htc hr N Y T le k1 tp
    rw [w5, nI_clamp (by omega)] at i1
    obtain ⟨l, b, u, m', -, -, y3, y4, -, y6, y7, -⟩ := w8 i i1
    rw [y4, nI_eq (by omega) (by omega)] at i2
    rw [← i2, y7]
    exact nI_pos (by omega)
  · obtain ⟨l, a, k, m', -, -, -, y3, y4, -, y6, -, y7, -⟩ := oc_tS hc htc hr N Y T le k1 tp
    rw [y4, nI_eq (by omega) (by omega)] at i2
    rw [← i2, y7]
    exact nI_pos (by omega)
  · obtain ⟨l, a, b, A, k, u, m', -, -, y3, y4, -, y5, y6, -, -, -, -, -, -, y7, y8, -, y9, y10, -⟩ := oc_tU hc htc hr N Y T le k1 tp
    rcases i2 with i2 | i2
    · rw [y5, nI_eq (by omega) (by omega)] at i2
      rw [← i2, y8]
      exact nI_pos (by omega)
    · rw [y6, nI_eq (by omega) (by omega)] at i2
      rw [← i2, y10]
      exact nI_pos (by omega)
theorem oc_tC {nc tc : Nat} {tm mk kd par num ann rcv bod mc ml mb : Nat → Int32} {r : Nat} {rt rn : Nat → Int32} (hc : nc ≤ 32) (htc : tc ≤ 32) (hr : r < nc) (N : oc_Nd nc tc kd par num ann rcv bod mc ml mb) (Y : oc_Ty tc tm mk) (D : oc_Kd nc kd par rcv bod mc mb) (T : oc_Tab tc tm kd par num ann rcv bod mc ml mb r rt rn (r + 1)) (ht : ¬ rt r < 0) :
    oc_Cl nc par kd num bod r := fun n hn hk q => by
  have hl := oc_bo_li (oc_Nd_Pa N) hc n hn _ q
  have le := oc_li_le (oc_Nd_Pa N) hc n hn hl
  obtain ⟨k, p, A, k1, k2, -, k3, -⟩ := oc_tV hc htc hr N T le hk (oc_tA hc htc hr N Y D T ht n hn hl)
  rw [k2, nI_clamp (by omega), k3] at q
  omega
/-! every label of a literal's type has a method -/
theorem oc_lab {tm mc ml : Nat → Int32} {n A m : Nat} (hm : mc n = nI m) (hm8 : m ≤ 8) (L : oc_LM tm mc ml n A) (hl : ∀ i, i < m → ∃ l, l < 16 ∧ ml (n * 8 + i) = nI l) (hd : ∀ i j, i < m → j < m → ml (n * 8 + i) = ml (n * 8 + j) → i = j) :
    ∀ l, l < 16 → ¬ tm (A * 16 + l) = -1 → ∃ i, i < m ∧ ml (n * 8 + i) = nI l := fun l0 hl0 ht0 => Classical.byContradiction fun no => by
  have cm : (mc n).toNatClampNeg = m := by rw [hm, nI_clamp (by omega)]
  have e1 : oc_lc tm A = m := by
    have := L.1
    rw [hm] at this
    exact ((nI_eq (by omega) (by have := oc_lc_16 tm A; omega)).mp this).symm
  have s1 : oc_sm (fun l => oc_sm (fun i => if (ml (n * 8 + i)).toNatClampNeg = l then 1 else 0) m) 16 = m := by
    rw [← oc_sm_x (fun i l => if (ml (n * 8 + i)).toNatClampNeg = l then 1 else 0) 16 m]
    have : oc_sm (fun i => oc_sm (fun l => if (ml (n * 8 + i)).toNatClampNeg = l then 1 else 0) 16) m = oc_sm (fun _ => 1) m := oc_sm_cg m fun i hi => by
      obtain ⟨l, l1, l2⟩ := hl i hi
      have a := oc_sm_1 (fun l' => if (ml (n * 8 + i)).toNatClampNeg = l' then 1 else 0) (k := l) 16 l1
      have b : oc_sm (fun l' => if (ml (n * 8 + i)).toNatClampNeg = l' then 1 else 0) 16 ≤ 1 := oc_sm_u 16 (fun i _ => by split <;> omega) (fun x y _ _ hx hy => by
        have hx' : (ml (n * 8 + i)).toNatClampNeg = x := Decidable.byContradiction fun q => by rw [if_neg q] at hx; omega
        have hy' : (ml (n * 8 + i)).toNatClampNeg = y := Decidable.byContradiction fun q => by rw [if_neg q] at hy; omega
        omega)
      rw [if_pos (by rw [l2, nI_clamp (by omega)])] at a
      omega
    rw [this]
    have g : ∀ m, oc_sm (fun _ => 1) m = m := fun m => by
      induction m with
      | zero => rfl
      | succ m ih => rw [oc_sm, ih]
    exact g m
  have s2 : oc_sm (fun l => oc_sm (fun i => if (ml (n * 8 + i)).toNatClampNeg = l then 1 else 0) m + (if l = l0 then 1 else 0)) 16 ≤ oc_lc tm A := by
    refine oc_sm_le 16 fun l hl16 => ?_
    by_cases w : ∃ i, i < m ∧ (ml (n * 8 + i)).toNatClampNeg = l
    · obtain ⟨i, i1, i2⟩ := w
      have ne : ¬ l = l0 := fun q => no ⟨i, i1, by
        obtain ⟨l', x1, x2⟩ := hl i i1
        rw [x2, nI_clamp (by omega)] at i2
        rw [x2, i2, q]⟩
      have tl : ¬ tm (A * 16 + l) = -1 := by
        have := L.2 i (by rw [cm]; exact i1)
        rw [i2] at this
        exact this
      rw [if_neg ne, if_neg tl]
      refine oc_sm_u m (fun i _ => by split <;> omega) (fun x y hx hy ax ay => ?_)
      have hx' : (ml (n * 8 + x)).toNatClampNeg = l := Decidable.byContradiction fun q => by rw [if_neg q] at ax; omega
      have hy' : (ml (n * 8 + y)).toNatClampNeg = l := Decidable.byContradiction fun q => by rw [if_neg q] at ay; omega
      obtain ⟨lx, x1, x2⟩ := hl x hx
      obtain ⟨ly, y1, y2⟩ := hl y hy
      rw [x2, nI_clamp (by omega)] at hx'
      rw [y2, nI_clamp (by omega)] at hy'
      exact hd x y hx hy (by rw [x2, y2, hx', hy'])
    · have z : oc_sm (fun i => if (ml (n * 8 + i)).toNatClampNeg = l then 1 else 0) m = 0 := oc_sm_z m fun i hi => if_neg fun q => w ⟨i, hi, q⟩
      rw [z]
      by_cases q : l = l0
      · rw [if_pos q, q, if_neg ht0] <;> omega
      · rw [if_neg q]; omega
  rw [oc_sm_add, s1, e1] at s2
  have s3 := oc_sm_1 (fun l => if l = l0 then 1 else 0) (k := l0) 16 hl0
  rw [if_pos rfl] at s3
  omega
end
section
/-! environments that fit the binders above a node; ty: the type that an object was made with -/
def oc_ET (tm par kd bod ann co cr : Nat → Int32) (ty : Nat → Nat) (us ob r : Nat) (n : Nat) (e : Int32) : Prop :=
  if n = r then True
  else if h : n < (par n).toNatClampNeg ∧ (par n).toNatClampNeg < 32 then
    (if kd (par n).toNatClampNeg = 1 ∨ bod (par n).toNatClampNeg = nI n then
      ∃ c o, c < us ∧ e = nI c ∧ o < ob ∧ co c = nI o ∧ oc_sub tm (ty o) (ann (par n).toNatClampNeg).toNatClampNeg ∧ oc_ET tm par kd bod ann co cr ty us ob r (par n).toNatClampNeg (cr c)
    else oc_ET tm par kd bod ann co cr ty us ob r (par n).toNatClampNeg e)
  else True
termination_by 32 - n
decreasing_by all_goals omega
theorem oc_ET_r {tm par kd bod ann co cr : Nat → Int32} {ty : Nat → Nat} {us ob r : Nat} {e : Int32} : oc_ET tm par kd bod ann co cr ty us ob r r e := by
  rw [oc_ET, if_pos rfl]; trivial
theorem oc_ET_1 {tm par kd bod ann co cr : Nat → Int32} {ty : Nat → Nat} {us ob r n p : Nat} {e : Int32} (ep : par n = nI p) (h1 : n < p) (h2 : p < 32) (hr : n ≠ r) (b : kd p = 1 ∨ bod p = nI n) :
    oc_ET tm par kd bod ann co cr ty us ob r n e ↔ ∃ c o, c < us ∧ e = nI c ∧ o < ob ∧ co c = nI o ∧ oc_sub tm (ty o) (ann p).toNatClampNeg ∧ oc_ET tm par kd bod ann co cr ty us ob r p (cr c) := by
  have c := oc_cl ep h2
  rw [oc_ET, if_neg hr, dif_pos (by rw [c]; exact ⟨h1, h2⟩), c, if_pos b]
theorem oc_ET_2 {tm par kd bod ann co cr : Nat → Int32} {ty : Nat → Nat} {us ob r n p : Nat} {e : Int32} (ep : par n = nI p) (h1 : n < p) (h2 : p < 32) (hr : n ≠ r) (b : ¬ (kd p = 1 ∨ bod p = nI n)) :
    oc_ET tm par kd bod ann co cr ty us ob r n e ↔ oc_ET tm par kd bod ann co cr ty us ob r p e := by
  have c := oc_cl ep h2
  rw [oc_ET, if_neg hr, dif_pos (by rw [c]; exact ⟨h1, h2⟩), c, if_neg b]
theorem oc_ET_n {tm par kd bod ann co cr : Nat → Int32} {ty : Nat → Nat} {us ob r n : Nat} {e : Int32} (ep : par n = -1) : oc_ET tm par kd bod ann co cr ty us ob r n e := by
  have c := oc_cl1 ep
  by_cases hr : n = r
  · rw [hr]; exact oc_ET_r
  · rw [oc_ET, if_neg hr, dif_neg (by rw [c]; omega)]; trivial
theorem oc_ET_mo {tm par kd bod ann co cr co' cr' : Nat → Int32} {ty ty' : Nat → Nat} {us ob us' ob' r nc : Nat} (hP : oc_Pa par nc) (hc : nc ≤ 32) (h1 : us ≤ us') (h2 : ob ≤ ob') (h3 : ∀ c, c < us → co' c = co c ∧ cr' c = cr c) (h4 : ∀ o, o < ob → ty' o = ty o) :
    ∀ n, n < nc → ∀ e, oc_ET tm par kd bod ann co cr ty us ob r n e → oc_ET tm par kd bod ann co' cr' ty' us' ob' r n e := by
  refine oc_up fun n hn ih e h => ?_
  by_cases hr : n = r
  · rw [hr]; exact oc_ET_r
  rcases hP n hn with q | ⟨p, q1, q2, q3⟩
  · exact oc_ET_n q
  by_cases b : kd p = 1 ∨ bod p = nI n
  · obtain ⟨c, o, x1, x2, x3, x4, x5, x6⟩ := (oc_ET_1 q3 q1 (by omega) hr b).mp h
    refine (oc_ET_1 q3 q1 (by omega) hr b).mpr ⟨c, o, by omega, x2, by omega, by rw [(h3 c x1).1, x4], by rw [h4 o x3]; exact x5, ?_⟩
    rw [(h3 c x1).2]
    exact ih p q1 q2 _ x6
  · exact (oc_ET_2 q3 q1 (by omega) hr b).mpr (ih p q1 q2 _ ((oc_ET_2 q3 q1 (by omega) hr b).mp h))
/-- the k-th object of an environment -/
def oc_CH (co cr : Nat → Int32) (us ob o : Nat) : Nat → Int32 → Prop
  | 0, e => ∃ c, c < us ∧ e = nI c ∧ o < ob ∧ co c = nI o
  | k + 1, e => ∃ c, c < us ∧ e = nI c ∧ oc_CH co cr us ob o k (cr c)
theorem oc_ET_CH {tm par kd bod ann co cr : Nat → Int32} {ty : Nat → Nat} {us ob r nc : Nat} {p0 : Nat} (hP : oc_Pa par nc) (hc : nc ≤ 32) :
    ∀ n, n < nc → ∀ k e, oc_ET tm par kd bod ann co cr ty us ob r n e → oc_bo par kd bod r n k = (p0 : Int) → ∃ o, o < ob ∧ oc_CH co cr us ob o k e ∧ oc_sub tm (ty o) (ann p0).toNatClampNeg := by
  refine oc_up fun n hn ih k e h hb => ?_
  by_cases hr : n = r
  · rw [hr, oc_bo_r] at hb; omega
  rcases hP n hn with q | ⟨p, q1, q2, q3⟩
  · rw [oc_bo_n q hr] at hb; omega
  by_cases b : kd p = 1 ∨ bod p = nI n
  · obtain ⟨c, o, x1, x2, x3, x4, x5, x6⟩ := (oc_ET_1 q3 q1 (by omega) hr b).mp h
    cases k with
    | zero =>
      rw [oc_bo_0 q3 q1 (by omega) hr b] at hb
      have : p = p0 := by omega
      subst this
      exact ⟨o, x3, ⟨c, x1, x2, x3, x4⟩, x5⟩
    | succ k =>
      rw [oc_bo_1 q3 q1 (by omega) hr b] at hb
      obtain ⟨o', y1, y2, y3⟩ := ih p q1 q2 k _ x6 hb
      exact ⟨o', y1, ⟨c, x1, x2, y2⟩, y3⟩
  · rw [oc_bo_2 q3 q1 (by omega) hr b] at hb
    exact ih p q1 q2 k e ((oc_ET_2 q3 q1 (by omega) hr b).mp h) hb
/-! objects, frames, the typed machine -/
def oc_TO (tc nc us ob : Nat) (tm par kd bod ann co cr cb ce rt : Nat → Int32) (ty : Nat → Nat) (r : Nat) : Prop :=
  ∀ o, o < ob → ty o < tc ∧ ¬ ty o = 0 ∧ ∀ l, l < 16 → ∀ m', m' < tc → tm (ty o * 16 + l) = nI m' → ∃ b p u, b < p ∧ p < nc ∧ par b = nI p ∧ oc_li par r p = true ∧ (kd p = 1 ∨ bod p = nI b) ∧ cb (o * 16 + l) = nI b ∧
    u < tc ∧ rt b = nI u ∧ oc_sub tm u m' ∧ oc_sub tm (ty o) (ann p).toNatClampNeg ∧ oc_ET tm par kd bod ann co cr ty us ob r p (ce (o * 16 + l))
/-- the type that the frame at j - 1 awaits -/
def oc_ex (rt rcv fn fp : Nat → Int32) (r : Nat) : Nat → Nat
  | 0 => (rt r).toNatClampNeg
  | j + 1 => if fp j = 1 then (rt (rcv (fn j).toNatClampNeg).toNatClampNeg).toNatClampNeg else (rt (fn j).toNatClampNeg).toNatClampNeg
theorem oc_ex_s {rt rcv fn fp : Nat → Int32} {r j : Nat} : oc_ex rt rcv fn fp r (j + 1) = if fp j = 1 then (rt (rcv (fn j).toNatClampNeg).toNatClampNeg).toNatClampNeg else (rt (fn j).toNatClampNeg).toNatClampNeg := rfl
theorem oc_ex_0 {rt rcv fn fp : Nat → Int32} {r : Nat} : oc_ex rt rcv fn fp r 0 = (rt r).toNatClampNeg := rfl
def oc_TF (nc us ob fc : Nat) (tm par kd bod ann rcv co cr rt fn fe fp : Nat → Int32) (ty : Nat → Nat) (r : Nat) : Prop :=
  ∀ j, j < fc → ∃ n, n < nc ∧ oc_li par r n = true ∧ fn j = nI n ∧ oc_ET tm par kd bod ann co cr ty us ob r n (fe j) ∧ oc_sub tm (rt n).toNatClampNeg (oc_ex rt rcv fn fp r j) ∧
    ((fp j = 0 ∧ j + 1 = fc) ∨ (fp j = 1 ∧ (kd n = 2 ∨ kd n = 3)) ∨ (fp j = 2 ∧ kd n = 2))
def oc_TM (tc nc r F : Nat) (tm par kd bod ann rcv rt : Nat → Int32) (us ob fc : Nat) (val : Int32) (cb ce co cr fn fe fp : Nat → Int32) (ty : Nat → Nat) : Prop :=
  us ≤ F ∧ ob ≤ 32 ∧ fc ≤ 48 ∧ oc_TO tc nc us ob tm par kd bod ann co cr cb ce rt ty r ∧ oc_TF nc us ob fc tm par kd bod ann rcv co cr rt fn fe fp ty r ∧
  ((∃ q, fc = q + 1 ∧ fp q = 0) ∨ ∃ o, o < ob ∧ val = nI o ∧ oc_sub tm (ty o) (oc_ex rt rcv fn fp r fc))
theorem oc_ex_cg {rt rcv fn fp fn' fp' : Nat → Int32} {r : Nat} : ∀ j, (∀ i, i + 1 = j → fn' i = fn i ∧ fp' i = fp i) → oc_ex rt rcv fn' fp' r j = oc_ex rt rcv fn fp r j
  | 0, _ => rfl
  | j + 1, h => by
    obtain ⟨a, b⟩ := h j rfl
    rw [oc_ex_s, oc_ex_s, a, b]
theorem oc_TM_pop {tc nc r F : Nat} {tm par kd bod ann rcv rt : Nat → Int32} {us ob ob' q n o : Nat} {val : Int32} {cb ce co cr fn fe fp cb' ce' : Nat → Int32} {ty ty' : Nat → Nat} (hP : oc_Pa par nc) (hc : nc ≤ 32)
    (h : oc_TM tc nc r F tm par kd bod ann rcv rt us ob (q + 1) val cb ce co cr fn fe fp ty) (h1 : ob ≤ ob') (h2 : ob' ≤ 32) (h4 : ∀ o, o < ob → ty' o = ty o) (hO : oc_TO tc nc us ob' tm par kd bod ann co cr cb' ce' rt ty' r) (ho : o < ob')
    (hn : n < nc) (en : fn q = nI n) (hs : oc_sub tm (ty' o) (rt n).toNatClampNeg) :
    oc_TM tc nc r F tm par kd bod ann rcv rt us ob' q (nI o) cb' ce' co cr fn fe fp ty' := by
  obtain ⟨a1, a2, a3, a4, a5, a6⟩ := h
  refine ⟨a1, h2, by omega, hO, fun j hj => ?_, Or.inr ⟨o, ho, rfl, ?_⟩⟩
  · obtain ⟨n', w1, w2, w3, w4, w5, w6⟩ := a5 j (by omega)
    refine ⟨n', w1, w2, w3, oc_ET_mo hP hc (Nat.le_refl _) h1 (fun _ _ => ⟨rfl, rfl⟩) h4 n' w1 _ w4, w5, ?_⟩
    rcases w6 with ⟨-, y⟩ | y
    · omega
    · exact Or.inr y
  · obtain ⟨n', w1, w2, w3, w4, w5, w6⟩ := a5 q (by omega)
    have : n' = n := by
      rw [en, nI_eq (by omega) (by omega)] at w3
      exact w3.symm
    subst this
    exact oc_sub_tr hs w5
theorem oc_TO_mo {tc nc us us' ob r : Nat} {tm par kd bod ann co cr co' cr' cb ce rt : Nat → Int32} {ty : Nat → Nat} (hP : oc_Pa par nc) (hc : nc ≤ 32) (h1 : us ≤ us') (h3 : ∀ c, c < us → co' c = co c ∧ cr' c = cr c) (h : oc_TO tc nc us ob tm par kd bod ann co cr cb ce rt ty r) : oc_TO tc nc us' ob tm par kd bod ann co' cr' cb ce rt ty r := fun o ho => by
  obtain ⟨a1, a2, a3⟩ := h o ho
  refine ⟨a1, a2, fun l hl m' hm em => ?_⟩
  obtain ⟨b, p, u, x1, x2, x3, x4, x5, x6, x7, x8, x9, x10, x11⟩ := a3 l hl m' hm em
  exact ⟨b, p, u, x1, x2, x3, x4, x5, x6, x7, x8, x9, x10, oc_ET_mo hP hc h1 (Nat.le_refl _) h3 (fun _ _ => rfl) p x2 _ x11⟩
theorem oc_TM_push {tc nc r F : Nat} {tm par kd bod ann rcv rt : Nat → Int32} {us us' ob q n n' : Nat} {val e' ph : Int32} {cb ce co cr co' cr' fn fe fp : Nat → Int32} {ty : Nat → Nat} (hP : oc_Pa par nc) (hc : nc ≤ 32)
    (h : oc_TM tc nc r F tm par kd bod ann rcv rt us ob (q + 1) val cb ce co cr fn fe fp ty) (hq : q + 1 < 48) (h1 : us ≤ us') (h2 : us' ≤ F) (h3 : ∀ c, c < us → co' c = co c ∧ cr' c = cr c)
    (hn : n < nc) (en : fn q = nI n) (hph : (ph = 1 ∧ (kd n = 2 ∨ kd n = 3)) ∨ (ph = 2 ∧ kd n = 2)) (hn' : n' < nc) (hl : oc_li par r n' = true) (hE : oc_ET tm par kd bod ann co' cr' ty us' ob r n' e')
    (hs1 : ph = 1 → oc_sub tm (rt n').toNatClampNeg (rt (rcv n).toNatClampNeg).toNatClampNeg) (hs2 : ¬ ph = 1 → oc_sub tm (rt n').toNatClampNeg (rt n).toNatClampNeg) :
    oc_TM tc nc r F tm par kd bod ann rcv rt us' ob (q + 2) val cb ce co' cr' (upd fn (q + 1) (nI n')) (upd fe (q + 1) e') (upd (upd fp q ph) (q + 1) 0) ty := by
  obtain ⟨a1, a2, a3, a4, a5, a6⟩ := h
  refine ⟨h2, a2, by omega, oc_TO_mo hP hc h1 h3 a4, fun j hj => ?_, Or.inl ⟨q + 1, rfl, pk_us⟩⟩
  by_cases z : j = q + 1
  · subst z
    refine ⟨n', hn', hl, pk_us, ?_, ?_, Or.inl ⟨pk_us, rfl⟩⟩
    · rw [pk_us]; exact hE
    · rw [oc_ex_s, pk_un (show q ≠ q + 1 by omega), pk_us, pk_un (show q ≠ q + 1 by omega), en, nI_clamp (by omega)]
      by_cases y : ph = 1
      · rw [if_pos y]; exact hs1 y
      · rw [if_neg y]; exact hs2 y
  · obtain ⟨n0, w1, w2, w3, w4, w5, w6⟩ := a5 j (by omega)
    refine ⟨n0, w1, w2, ?_, ?_, ?_, ?_⟩
    · rw [pk_un z]; exact w3
    · rw [pk_un z]; exact oc_ET_mo hP hc h1 (Nat.le_refl _) h3 (fun _ _ => rfl) n0 w1 _ w4
    · rw [oc_ex_cg j fun i hi => ⟨pk_un (by omega), by rw [pk_un (by omega), pk_un (by omega)]⟩]
      exact w5
    · rw [pk_un z]
      by_cases y : j = q
      · subst y
        rw [pk_us]
        have e0 : n0 = n := by
          rw [en, nI_eq (by omega) (by omega)] at w3
          exact w3.symm
        rw [e0]
        rcases hph with x | x
        · exact Or.inr (Or.inl x)
        · exact Or.inr (Or.inr x)
      · rw [pk_un y]
        rcases w6 with ⟨-, x⟩ | x
        · omega
        · exact Or.inr x
/-! new objects keep their types -/
def oc_tyU (ty : Nat → Nat) (k t : Nat) : Nat → Nat := fun o => if o = k then t else ty o
theorem oc_tyU_lo {ty : Nat → Nat} {k t o : Nat} (h : o < k) : oc_tyU ty k t o = ty o := if_neg (by omega)
theorem oc_tyU_at {ty : Nat → Nat} {k t : Nat} : oc_tyU ty k t k = t := if_pos rfl
theorem oc_mt_v {ml f g : Nat → Int32} {o n l i0 : Nat} (e : (ml (n * 8 + i0)).toNatClampNeg = l) : ∀ m, i0 < m → (∀ i, i < m → i ≠ i0 → ¬ (ml (n * 8 + i)).toNatClampNeg = l) → oc_mt f ml g o n m (o * 16 + l) = g (n * 8 + i0)
  | 0, h, _ => absurd h (Nat.not_lt_zero _)
  | m + 1, h, hd => by
    rw [oc_mt]
    by_cases z : m = i0
    · rw [z, e, pk_us]
    · have := hd m (by omega) z
      rw [pk_un (by omega)]
      exact oc_mt_v e m (by omega) fun i hi ne => hd i (by omega) ne
theorem oc_TO_obj {tc nc us ob r n A m : Nat} {tm par kd num rcv bod ann mc ml mb co cr cb ce rt : Nat → Int32} {ty : Nat → Nat} {e : Int32} (hc : nc ≤ 32) (htc : tc ≤ 32) (hP : oc_Pa par nc) (hn : n < nc) (hl : oc_li par r n = true) (hk : kd n = 1)
    (hA : A < tc) (hA0 : ¬ A = 0) (eA : ann n = nI A) (hm : mc n = nI m) (hm8 : m ≤ 8) (L : oc_LM tm mc ml n A) (hd : ∀ i j, i < m → j < m → ml (n * 8 + i) = ml (n * 8 + j) → i = j)
    (hb : ∀ i, i < m → ∃ l b u m', l < 16 ∧ ml (n * 8 + i) = nI l ∧ b < n ∧ mb (n * 8 + i) = nI b ∧ par b = nI n ∧ u < tc ∧ rt b = nI u ∧ m' < tc ∧ tm (A * 16 + l) = nI m' ∧ oc_sub tm u m')
    (hE : oc_ET tm par kd bod ann co cr ty us ob r n e) (h : oc_TO tc nc us ob tm par kd bod ann co cr cb ce rt ty r) :
    oc_TO tc nc us (ob + 1) tm par kd bod ann co cr (oc_mt (oc_fi cb ob (-1) 16) ml mb ob n m) (oc_mt ce ml (fun _ => e) ob n m) rt (oc_tyU ty ob A) r := fun o ho => by
  by_cases z : o = ob
  · subst z
    rw [oc_tyU_at]
    refine ⟨hA, hA0, fun l hl' m' hm' em => ?_⟩
    obtain ⟨i, i1, i2⟩ := oc_lab hm hm8 L (fun i hi => by
      obtain ⟨l, b, u, m', y1, y2, -⟩ := hb i hi
      exact ⟨l, y1, y2⟩) hd l hl' (by rw [em]; exact oc_m1 (by omega))
    have ci : (ml (n * 8 + i)).toNatClampNeg = l := by rw [i2, nI_clamp (by omega)]
    have un : ∀ j, j < m → j ≠ i → ¬ (ml (n * 8 + j)).toNatClampNeg = l := fun j hj ne q => by
      obtain ⟨l', b, u, m'', y1, y2, -⟩ := hb j hj
      rw [y2, nI_clamp (by omega)] at q
      exact ne (hd j i hj i1 (by rw [y2, i2, q]))
    rw [oc_mt_v ci m i1 un, oc_mt_v ci m i1 un]
    obtain ⟨l', b, u, m'', y1, y2, y3, y4, y5, y6, y7, y8, y9, y10⟩ := hb i i1
    have el : l' = l := by
      rw [y2, nI_eq (by omega) (by omega)] at i2
      exact i2
    subst el
    have em' : m'' = m' := by
      rw [em, nI_eq (by omega) (by omega)] at y9
      exact y9.symm
    subst em'
    refine ⟨b, n, u, y3, hn, y5, hl, Or.inl hk, y4, y6, y7, y10, ?_, ?_⟩
    · rw [eA, nI_clamp (by omega)]; exact Or.inl rfl
    · exact oc_ET_mo hP hc (Nat.le_refl _) (by omega) (fun _ _ => ⟨rfl, rfl⟩) (fun o ho => oc_tyU_lo ho) n hn _ hE
  · have ho' : o < ob := by omega
    rw [oc_tyU_lo ho']
    obtain ⟨a1, a2, a3⟩ := h o ho'
    refine ⟨a1, a2, fun l hl' m' hm' em => ?_⟩
    obtain ⟨b, p, u, x1, x2, x3, x4, x5, x6, x7, x8, x9, x10, x11⟩ := a3 l hl' m' hm' em
    have lo : o * 16 + l < ob * 16 := by omega
    rw [oc_mt_lo m _ lo, oc_mt_lo m _ lo, oc_fi_lo 16 _ lo]
    exact ⟨b, p, u, x1, x2, x3, x4, x5, x6, x7, x8, x9, x10, oc_ET_mo hP hc (Nat.le_refl _) (by omega) (fun _ _ => ⟨rfl, rfl⟩) (fun o ho => oc_tyU_lo ho) p x2 _ x11⟩
theorem oc_TO_upd {tc nc us ob r n A l0 b0 u0 v m0 : Nat} {tm par kd bod ann co cr cb ce rt : Nat → Int32} {ty : Nat → Nat} {e : Int32} (hc : nc ≤ 32) (htc : tc ≤ 32) (hP : oc_Pa par nc) (hn : n < nc) (hl : oc_li par r n = true)
    (hb : b0 < n) (eb : bod n = nI b0) (pb : par b0 = nI n) (hv : v < ob) (hl0 : l0 < 16) (eA : ann n = nI A) (hA : A < tc) (hs : oc_sub tm (ty v) A) (hu : u0 < tc) (eu : rt b0 = nI u0) (hm0 : m0 < tc) (em0 : tm (ty v * 16 + l0) = nI m0) (hsu : oc_sub tm u0 m0)
    (hE : oc_ET tm par kd bod ann co cr ty us ob r n e) (h : oc_TO tc nc us ob tm par kd bod ann co cr cb ce rt ty r) :
    oc_TO tc nc us (ob + 1) tm par kd bod ann co cr (upd (oc_tc cb v ob 16) (ob * 16 + l0) (nI b0)) (upd (oc_tc ce v ob 16) (ob * 16 + l0) e) rt (oc_tyU ty ob (ty v)) r := fun o ho => by
  have mo : ∀ p, p < nc → ∀ e, oc_ET tm par kd bod ann co cr ty us ob r p e → oc_ET tm par kd bod ann co cr (oc_tyU ty ob (ty v)) us (ob + 1) r p e := oc_ET_mo hP hc (Nat.le_refl _) (by omega) (fun _ _ => ⟨rfl, rfl⟩) (fun o ho => oc_tyU_lo ho)
  by_cases z : o = ob
  · subst z
    rw [oc_tyU_at]
    obtain ⟨a1, a2, a3⟩ := h v hv
    refine ⟨a1, a2, fun l hl' m' hm' em => ?_⟩
    by_cases y : l = l0
    · subst y
      have : m' = m0 := by
        rw [em, nI_eq (by omega) (by omega)] at em0
        exact em0
      subst this
      rw [pk_us, pk_us]
      refine ⟨b0, n, u0, hb, hn, pb, hl, Or.inr eb, rfl, hu, eu, hsu, ?_, mo n hn _ hE⟩
      rw [eA, nI_clamp (by omega)]; exact hs
    · obtain ⟨b, p, u, x1, x2, x3, x4, x5, x6, x7, x8, x9, x10, x11⟩ := a3 l hl' m' hm' em
      rw [pk_un (by omega), pk_un (by omega), oc_tc_hi hv 16 l hl' (Nat.le_refl _), oc_tc_hi hv 16 l hl' (Nat.le_refl _)]
      exact ⟨b, p, u, x1, x2, x3, x4, x5, x6, x7, x8, x9, x10, mo p x2 _ x11⟩
  · have ho' : o < ob := by omega
    rw [oc_tyU_lo ho']
    obtain ⟨a1, a2, a3⟩ := h o ho'
    refine ⟨a1, a2, fun l hl' m' hm' em => ?_⟩
    obtain ⟨b, p, u, x1, x2, x3, x4, x5, x6, x7, x8, x9, x10, x11⟩ := a3 l hl' m' hm' em
    have lo : o * 16 + l < ob * 16 := by omega
    rw [pk_un (by omega), pk_un (by omega), oc_tc_lo 16 _ lo, oc_tc_lo 16 _ lo]
    exact ⟨b, p, u, x1, x2, x3, x4, x5, x6, x7, x8, x9, x10, mo p x2 _ x11⟩
end
section
/-! X's machine alone -/
theorem oc_xlook {NC TC tc nc us ob : Nat} {fail res fl val : Int32} {tm mk kd par num ann rcv bod mc ml mb cd cb ce org co cr fn fe fp : Nat → Int32} {q n k o : Nat} (hus : us ≤ 128) (hn : n < 32) (hk : k < 16) (ek : num n = nI k) {post : Int32 → St2 → Prop} (h : post 0 (nI NC, nI TC, nI tc, nI nc, fail, res, fl, nI us, nI ob, nI q, nI o, tm, mk, kd, par, num, ann, rcv, bod, mc, ml, mb, cd, cb, ce, org, co, cr, fn, fe, fp)) :
    ∀ d i e, i + d = k → oc_CH co cr us ob o d e → wX_advanceVariable_5 post (nI n) (nI NC) (nI TC) (nI tc) (nI nc) fail res fl (nI us) (nI ob) (nI (q + 1)) val tm mk kd par num ann rcv bod mc ml mb cd cb ce org co cr fn fe fp (d + 1) e (nI i) := by
  have vn : vp_in (nI n) 32 := vp_in_nI hn (by omega)
  have cn : (nI n).toNatClampNeg = n := nI_clamp (by omega)
  intro d
  induction d with
  | zero =>
    intro i e hi hE
    obtain ⟨c, y1, rfl, y3, y4⟩ := hE
    refine ⟨vn, ?_⟩
    rw [cn, ek]
    refine br_t (nI_le (by omega) (by omega)) ⟨vp_in_nI (by omega) (by omega), ?_⟩
    rw [nI_clamp (n := c) (by omega), y4]
    exact oc_xlv h
  | succ d ih =>
    intro i e hi hE
    obtain ⟨c, y1, rfl, y5⟩ := hE
    refine ⟨vn, ?_⟩
    rw [cn, ek]
    refine br_f (nI_ge (by omega) (by omega)) ⟨vp_in_nI (by omega) (by omega), ?_⟩
    rw [nI_clamp (n := c) (by omega)]
    exact nm_e (nm_r (nI_1 i) (ih (i + 1) (cr c) (by omega) y5))
theorem oc_En_CH {co cr : Nat → Int32} {us ob : Nat} : ∀ k d e, k < d → oc_En co cr us ob d e → ∃ o, o < ob ∧ oc_CH co cr us ob o k e
  | 0, 0, _, h, _ => absurd h (Nat.not_lt_zero _)
  | 0, d + 1, e, _, ⟨c, o, x1, x2, x3, x4, _⟩ => ⟨o, x3, c, x1, x2, x3, x4⟩
  | k + 1, 0, _, h, _ => absurd h (Nat.not_lt_zero _)
  | k + 1, d + 1, e, h, ⟨c, o, x1, x2, _, _, x5⟩ => by
    obtain ⟨o', y1, y2⟩ := oc_En_CH k d (cr c) (by omega) x5
    exact ⟨o', y1, c, x1, x2, y2⟩
/-- a step of any term without free variables -/
theorem oc_xstep {NC TC tc nc us ob : Nat} {fail res val : Int32} {tm mk kd par num ann rcv bod mc ml mb cd cb ce org co cr fn fe fp : Nat → Int32} {ret : Int32} {oe gn ge gd gs : Nat → Int32} {r F q : Nat} (hc : nc ≤ 32) (htc : tc ≤ 32) (hF : F ≤ 128) (hr : r < nc) (N : oc_Nd nc tc kd par num ann rcv bod mc ml mb) (C : oc_Cl nc par kd num bod r)
    (M : oc_MM nc r F par kd bod us ob (q + 1) val ret cb ce oe co cr fn fe fp gn ge gd gs) :
    (∃ (us' ob' fc' : Nat) (val' ret' : Int32) (cb' ce' oe' org' co' cr' fn' fe' fp' gn' ge' gd' gs' : Nat → Int32), oc_MM nc r F par kd bod us' ob' fc' val' ret' cb' ce' oe' co' cr' fn' fe' fp' gn' ge' gd' gs' ∧ oc_Ph F us' fc' fn' fp' < oc_Ph F us (q + 1) fn fp ∧
      (∀ post : Int32 → St2 → Prop, post 0 (nI NC, nI TC, nI tc, nI nc, fail, res, nI F, nI us', nI ob', nI fc', val', tm, mk, kd, par, num, ann, rcv, bod, mc, ml, mb, cd, cb', ce', org', co', cr', fn', fe', fp') → wpX_advance post (nI NC, nI TC, nI tc, nI nc, fail, res, nI F, nI us, nI ob, nI (q + 1), val, tm, mk, kd, par, num, ann, rcv, bod, mc, ml, mb, cd, cb, ce, org, co, cr, fn, fe, fp))) ∨
    (∃ (c us' : Nat) (co' cr' fp' : Nat → Int32), 1 ≤ c ∧ c ≤ 5 ∧ us' ≤ F ∧
      (∀ post : Int32 → St2 → Prop, post (nI c) (nI NC, nI TC, nI tc, nI nc, fail, res, nI F, nI us', nI ob, nI (q + 1), val, tm, mk, kd, par, num, ann, rcv, bod, mc, ml, mb, cd, cb, ce, org, co', cr', fn, fe, fp') → wpX_advance post (nI NC, nI TC, nI tc, nI nc, fail, res, nI F, nI us, nI ob, nI (q + 1), val, tm, mk, kd, par, num, ann, rcv, bod, mc, ml, mb, cd, cb, ce, org, co, cr, fn, fe, fp))) := by
  have M0 := M
  obtain ⟨m1, m2, m3, mO, mF, mV⟩ := M
  obtain ⟨n, w1, w2, w3, w4, w5, w6, w7, w8, w9⟩ := mF q (by omega)
  have hq : q < 48 := by omega
  have hn32 : n < 32 := by omega
  have recv : ∀ a, a < n → rcv n = nI a → par a = nI n → ¬ (kd n = 1 ∨ bod n = nI a) → (kd n = 2 ∨ kd n = 3) → fp q = 0 →
      (∃ (us' ob' fc' : Nat) (val' ret' : Int32) (cb' ce' oe' org' co' cr' fn' fe' fp' gn' ge' gd' gs' : Nat → Int32), oc_MM nc r F par kd bod us' ob' fc' val' ret' cb' ce' oe' co' cr' fn' fe' fp' gn' ge' gd' gs' ∧ oc_Ph F us' fc' fn' fp' < oc_Ph F us (q + 1) fn fp ∧
      (∀ post : Int32 → St2 → Prop, post 0 (nI NC, nI TC, nI tc, nI nc, fail, res, nI F, nI us', nI ob', nI fc', val', tm, mk, kd, par, num, ann, rcv, bod, mc, ml, mb, cd, cb', ce', org', co', cr', fn', fe', fp') → wpX_advance post (nI NC, nI TC, nI tc, nI nc, fail, res, nI F, nI us, nI ob, nI (q + 1), val, tm, mk, kd, par, num, ann, rcv, bod, mc, ml, mb, cd, cb, ce, org, co, cr, fn, fe, fp))) ∨
      (∃ (c us' : Nat) (co' cr' fp' : Nat → Int32), 1 ≤ c ∧ c ≤ 5 ∧ us' ≤ F ∧
      (∀ post : Int32 → St2 → Prop, post (nI c) (nI NC, nI TC, nI tc, nI nc, fail, res, nI F, nI us', nI ob, nI (q + 1), val, tm, mk, kd, par, num, ann, rcv, bod, mc, ml, mb, cd, cb, ce, org, co', cr', fn, fe, fp') → wpX_advance post (nI NC, nI TC, nI tc, nI nc, fail, res, nI F, nI us, nI ob, nI (q + 1), val, tm, mk, kd, par, num, ann, rcv, bod, mc, ml, mb, cd, cb, ce, org, co, cr, fn, fe, fp))) := by
    intro a a1 a2 a3 a4 a5 a6
    obtain ⟨p1, p2, p3⟩ := oc_kid (r := r) hc N w1 w2 a1 a3
    have hX : ∀ post : Int32 → St2 → Prop, (q + 1 < 48 → post 0 (nI NC, nI TC, nI tc, nI nc, fail, res, nI F, nI us, nI ob, nI (q + 2), val, tm, mk, kd, par, num, ann, rcv, bod, mc, ml, mb, cd, cb, ce, org, co, cr, upd fn (q + 1) (nI a), upd fe (q + 1) (fe q), upd (upd fp q 1) (q + 1) 0)) → (¬ q + 1 < 48 → post 4 (nI NC, nI TC, nI tc, nI nc, fail, res, nI F, nI us, nI ob, nI (q + 1), val, tm, mk, kd, par, num, ann, rcv, bod, mc, ml, mb, cd, cb, ce, org, co, cr, fn, fe, upd fp q 1)) → wpX_advance post (nI NC, nI TC, nI tc, nI nc, fail, res, nI F, nI us, nI ob, nI (q + 1), val, tm, mk, kd, par, num, ann, rcv, bod, mc, ml, mb, cd, cb, ce, org, co, cr, fn, fe, fp) := fun post h1 h0 => by
      rw [← a2] at h1
      have g := oc_xs0 (e := fe q) hq hn32 a6 h1 h0
      rcases a5 with z | z
      · exact oc_xa2 hq hn32 w3 z g.1
      · exact oc_xa3 hq hn32 w3 z g.2
    by_cases z : q + 1 < 48
    · left
      refine ⟨us, ob, q + 2, val, ret, cb, ce, oe, org, co, cr, upd fn (q + 1) (nI a), upd fe (q + 1) (fe q), upd (upd fp q 1) (q + 1) 0, upd gn (q + 1) (nI a), upd ge (q + 1) (fe q), upd gd (q + 1) (nI (q + 2)), upd (upd gs q 1) (q + 1) 0, ?_, ?_, fun post h => hX post (fun _ => h) (fun w => absurd z w)⟩
      · exact oc_MM_push M0 hc z (Nat.le_refl _) m1 (fun _ _ => ⟨rfl, rfl⟩) w1 w3 (Or.inl ⟨rfl, a5⟩) (by omega) p1 (by rw [p3 a4]; exact w5)
      · refine oc_Ph_push (by omega) ?_
        have e : oc_wt fn fp q = 3 * n + 3 := by
          unfold oc_wt
          rw [if_pos a6, w3, nI_clamp (by omega)]
        rw [e, if_neg (by decide), if_pos rfl]
        omega
    · right
      exact ⟨4, us, co, cr, upd fp q 1, by omega, by omega, m1, fun post h => hX post (fun w => absurd w z) (fun _ => h)⟩
  obtain ⟨-, ⟨k1, -, k, hk, ek⟩ | ⟨k1, k2, -, m, x4, x5, x6, x7⟩ | ⟨k1, k2, ⟨l, hl, el⟩, a, x4, x5, x6⟩ | ⟨k1, ⟨l, hl, el⟩, -, a, b, x4, x5, x6, x7, x8, x9, x10⟩⟩ := N n w1
  · have hb := C n w1 k1
    rw [ek, nI_clamp (by omega)] at hb
    have hd := oc_bo_dp (oc_Nd_Pa N) hc n w1 k w2 hb
    obtain ⟨o, o1, o2⟩ := oc_En_CH k _ _ hd w5
    left
    exact ⟨us, ob, q, nI o, nI o, cb, ce, oe, org, co, cr, fn, fe, fp, gn, ge, gd, gs, oc_MM_pop M0 (Nat.le_refl _) m2 mO o1, oc_Ph_pop, fun post h => oc_xa0 hq hn32 w3 k1 ⟨k + 1, oc_xlook (by omega) hn32 hk ek h k 0 (fe q) (by omega) o2⟩⟩
  · have hl : ∀ i, i < m → ∃ l, l < 16 ∧ ml (n * 8 + i) = nI l := fun i hi => by
      obtain ⟨l, b, y1, y2, -⟩ := x6 i hi
      exact ⟨l, y1, y2⟩
    by_cases z : ob = 32
    · right
      refine ⟨5, us, co, cr, fp, by omega, by omega, m1, fun post h => oc_xa1 hq hn32 w3 k1 ?_⟩
      unfold wpX_advanceObject
      exact br_f (nI_nlt (b := 32) (by omega) (by omega)) h
    · left
      exact ⟨us, ob + 1, q, nI ob, nI ob, oc_mt (oc_fi cb ob (-1) 16) ml mb ob n m, oc_mt ce ml (fun _ => fe q) ob n m, oc_mt (oc_fi oe ob (-1) 16) ml (fun _ => fe q) ob n m, upd org ob (ann n), co, cr, fn, fe, fp, gn, ge, gd, gs, oc_MM_pop M0 (by omega) (by omega) (oc_Ob_obj hc N w1 w2 k1 x5 x4 w5 mO) (by omega), oc_Ph_pop, fun post h => oc_xa1 hq hn32 w3 k1 (oc_xob hn32 (by omega) x5 x4 hl h)⟩
  · rcases w9 with ⟨f0, -⟩ | ⟨f1, -⟩ | ⟨f2, -⟩
    · refine recv a x4 x5 x6 (fun w => ?_) (Or.inl k1) f0
      rcases w with w | w
      · rw [k1] at w; exact absurd w (by decide)
      · rw [k2] at w; exact absurd w (oc_m1' (by omega))
    · obtain ⟨v, v1, rfl, rfl⟩ : ∃ o, o < ob ∧ val = nI o ∧ ret = nI o := by
        rcases mV with ⟨q', e1, e2⟩ | y
        · have : q' = q := by omega
          subst this
          rw [f1] at e2; exact absurd e2 (by decide)
        · exact y
      rcases mO v l v1 hl with z | ⟨b, d, z1, z2, z3, z4, z5, z6⟩
      · right
        refine ⟨1, us, co, cr, fp, by omega, by omega, m1, fun post h => oc_xa2 hq hn32 w3 k1 ?_⟩
        exact oc_xs1 hF m1 hq hn32 (by omega) hl f1 el (fun _ => h) (fun y => absurd z y) (fun y => absurd z y) (fun y => absurd z y)
      have nz : ¬ cb (v * 16 + l) = -1 := by rw [z3]; exact oc_m1 (by omega)
      by_cases y : us = F
      · right
        refine ⟨3, us, co, cr, fp, by omega, by omega, m1, fun post h => oc_xa2 hq hn32 w3 k1 ?_⟩
        exact oc_xs1 hF m1 hq hn32 (by omega) hl f1 el (fun y' => absurd y' nz) (fun _ _ => h) (fun _ y' => by omega) (fun _ y' => by omega)
      have hX : ∀ post : Int32 → St2 → Prop, (q + 1 < 48 → post 0 (nI NC, nI TC, nI tc, nI nc, fail, res, nI F, nI (us + 1), nI ob, nI (q + 2), nI v, tm, mk, kd, par, num, ann, rcv, bod, mc, ml, mb, cd, cb, ce, org, upd co us (nI v), upd cr us (ce (v * 16 + l)), upd fn (q + 1) (nI b), upd fe (q + 1) (nI us), upd (upd fp q 2) (q + 1) 0)) →
          (¬ q + 1 < 48 → post 4 (nI NC, nI TC, nI tc, nI nc, fail, res, nI F, nI (us + 1), nI ob, nI (q + 1), nI v, tm, mk, kd, par, num, ann, rcv, bod, mc, ml, mb, cd, cb, ce, org, upd co us (nI v), upd cr us (ce (v * 16 + l)), fn, fe, upd fp q 2)) → wpX_advance post (nI NC, nI TC, nI tc, nI nc, fail, res, nI F, nI us, nI ob, nI (q + 1), nI v, tm, mk, kd, par, num, ann, rcv, bod, mc, ml, mb, cd, cb, ce, org, co, cr, fn, fe, fp) := fun post h1 h0 => by
        rw [← z3] at h1
        exact oc_xa2 hq hn32 w3 k1 (oc_xs1 hF m1 hq hn32 (by omega) hl f1 el (fun y' => absurd y' nz) (fun _ y' => absurd y' y) (fun _ _ => h1) (fun _ _ => h0))
      by_cases z' : q + 1 < 48
      · left
        have agree : ∀ c, c < us → upd co us (nI v) c = co c ∧ upd cr us (ce (v * 16 + l)) c = cr c := fun c hc' => ⟨pk_un (by omega), pk_un (by omega)⟩
        refine ⟨us + 1, ob, q + 2, nI v, nI v, cb, ce, oe, org, upd co us (nI v), upd cr us (ce (v * 16 + l)), upd fn (q + 1) (nI b), upd fe (q + 1) (nI us), upd (upd fp q 2) (q + 1) 0, upd gn (q + 1) (nI b), upd ge (q + 1) (nI us), upd gd (q + 1) (nI (q + 2)), upd (upd gs q 2) (q + 1) 0, ?_, ?_, fun post h => hX post (fun _ => h) (fun w => absurd z' w)⟩
        · refine oc_MM_push M0 hc z' (by omega) (by omega) agree w1 w3 (Or.inr ⟨rfl, k1⟩) z1 z2 ?_
          rw [z4]
          refine ⟨us, v, by omega, rfl, v1, pk_us, ?_⟩
          rw [pk_us]
          exact oc_En_mo (by omega) (Nat.le_refl _) agree _ _ z5
        · refine oc_Ph_push (by omega) ?_
          have e : oc_wt fn fp q = 2 := by
            unfold oc_wt
            rw [if_neg (by rw [f1]; decide), if_pos f1]
          rw [e, if_neg (by decide), if_neg (by decide)]
          omega
      · right
        exact ⟨4, us + 1, upd co us (nI v), upd cr us (ce (v * 16 + l)), upd fp q 2, by omega, by omega, by omega, fun post h => hX post (fun w => absurd w z') (fun _ => h)⟩
    · obtain ⟨v, v1, rfl, rfl⟩ : ∃ o, o < ob ∧ val = nI o ∧ ret = nI o := by
        rcases mV with ⟨q', e1, e2⟩ | y
        · have : q' = q := by omega
          subst this
          rw [f2] at e2; exact absurd e2 (by decide)
        · exact y
      left
      exact ⟨us, ob, q, nI v, nI v, cb, ce, oe, org, co, cr, fn, fe, fp, gn, ge, gd, gs, oc_MM_pop M0 (Nat.le_refl _) m2 mO v1, oc_Ph_pop, fun post h => oc_xa2 hq hn32 w3 k1 (oc_xs2 hq f2 h)⟩
  · rcases w9 with ⟨f0, -⟩ | ⟨f1, -⟩ | ⟨f2, y⟩
    · refine recv a x4 x7 x9 (fun w => ?_) (Or.inr k1) f0
      rcases w with w | w
      · rw [k1] at w; exact absurd w (by decide)
      · rw [x8, nI_eq (by omega) (by omega)] at w; exact x6 w.symm
    · obtain ⟨v, v1, rfl, rfl⟩ : ∃ o, o < ob ∧ val = nI o ∧ ret = nI o := by
        rcases mV with ⟨q', e1, e2⟩ | y
        · have : q' = q := by omega
          subst this
          rw [f1] at e2; exact absurd e2 (by decide)
        · exact y
      by_cases z : cb (v * 16 + l) = -1
      · right
        refine ⟨2, us, co, cr, fp, by omega, by omega, m1, fun post h => oc_xa3 hq hn32 w3 k1 ?_⟩
        exact oc_xu1 m2 hq hn32 v1 hl f1 el (fun _ => h) (fun y => absurd z y) (fun y => absurd z y)
      by_cases y : ob = 32
      · right
        refine ⟨5, us, co, cr, fp, by omega, by omega, m1, fun post h => oc_xa3 hq hn32 w3 k1 ?_⟩
        exact oc_xu1 m2 hq hn32 v1 hl f1 el (fun y' => absurd y' z) (fun _ _ => h) (fun _ y' => by omega)
      left
      refine ⟨us, ob + 1, q, nI ob, nI ob, upd (oc_tc cb v ob 16) (ob * 16 + l) (nI b), upd (oc_tc ce v ob 16) (ob * 16 + l) (fe q), upd (oc_tc oe v ob 16) (ob * 16 + l) (fe q), upd org ob (ann n), co, cr, fn, fe, fp, gn, ge, gd, gs, oc_MM_pop M0 (by omega) (by omega) (oc_Ob_upd hc N w1 w2 x5 x8 x10 v1 w5 mO) (by omega), oc_Ph_pop, fun post h => ?_⟩
      rw [← x8] at h
      exact oc_xa3 hq hn32 w3 k1 (oc_xu1 m2 hq hn32 v1 hl f1 el (fun y' => absurd y' z) (fun _ y' => absurd y' y) (fun _ _ => h))
    · rw [k1] at y; exact absurd y (by decide)
/-- a step of an accepted term -/
theorem oc_tstep {NC TC tc nc us ob : Nat} {fail res val : Int32} {tm mk kd par num ann rcv bod mc ml mb cd cb ce org co cr fn fe fp : Nat → Int32} {rt rn : Nat → Int32} {ty : Nat → Nat} {r F q : Nat} (hc : nc ≤ 32) (htc : tc ≤ 32) (hF : F ≤ 128) (hr : r < nc) (N : oc_Nd nc tc kd par num ann rcv bod mc ml mb) (Y : oc_Ty tc tm mk) (D : oc_Ld nc kd mc ml) (T : oc_Tab tc tm kd par num ann rcv bod mc ml mb r rt rn (r + 1)) (hA : ∀ n, n < nc → oc_li par r n = true → ¬ rt n < 0)
    (M : oc_TM tc nc r F tm par kd bod ann rcv rt us ob (q + 1) val cb ce co cr fn fe fp ty) :
    (∃ (us' ob' fc' : Nat) (val' : Int32) (cb' ce' org' co' cr' fn' fe' fp' : Nat → Int32) (ty' : Nat → Nat), oc_TM tc nc r F tm par kd bod ann rcv rt us' ob' fc' val' cb' ce' co' cr' fn' fe' fp' ty' ∧ oc_Ph F us' fc' fn' fp' < oc_Ph F us (q + 1) fn fp ∧
      (∀ post : Int32 → St2 → Prop, post 0 (nI NC, nI TC, nI tc, nI nc, fail, res, nI F, nI us', nI ob', nI fc', val', tm, mk, kd, par, num, ann, rcv, bod, mc, ml, mb, cd, cb', ce', org', co', cr', fn', fe', fp') → wpX_advance post (nI NC, nI TC, nI tc, nI nc, fail, res, nI F, nI us, nI ob, nI (q + 1), val, tm, mk, kd, par, num, ann, rcv, bod, mc, ml, mb, cd, cb, ce, org, co, cr, fn, fe, fp))) ∨
    (∃ (c us' : Nat) (co' cr' fp' : Nat → Int32), (c = 3 ∨ c = 4 ∨ c = 5) ∧ us' ≤ F ∧
      (∀ post : Int32 → St2 → Prop, post (nI c) (nI NC, nI TC, nI tc, nI nc, fail, res, nI F, nI us', nI ob, nI (q + 1), val, tm, mk, kd, par, num, ann, rcv, bod, mc, ml, mb, cd, cb, ce, org, co', cr', fn, fe, fp') → wpX_advance post (nI NC, nI TC, nI tc, nI nc, fail, res, nI F, nI us, nI ob, nI (q + 1), val, tm, mk, kd, par, num, ann, rcv, bod, mc, ml, mb, cd, cb, ce, org, co, cr, fn, fe, fp))) := by
  have M0 := M
  have hP := oc_Nd_Pa N
  obtain ⟨m1, m2, m3, mO, mF, mV⟩ := M
  obtain ⟨n, w1, w2, w3, w5, w6, w9⟩ := mF q (by omega)
  have hq : q < 48 := by omega
  have hn32 : n < 32 := by omega
  have le := oc_li_le hP hc n w1 w2
  have ht := hA n w1 w2
  have recv : ∀ a, a < n → rcv n = nI a → par a = nI n → ¬ (kd n = 1 ∨ bod n = nI a) → (kd n = 2 ∨ kd n = 3) → fp q = 0 →
      (∃ (us' ob' fc' : Nat) (val' : Int32) (cb' ce' org' co' cr' fn' fe' fp' : Nat → Int32) (ty' : Nat → Nat), oc_TM tc nc r F tm par kd bod ann rcv rt us' ob' fc' val' cb' ce' co' cr' fn' fe' fp' ty' ∧ oc_Ph F us' fc' fn' fp' < oc_Ph F us (q + 1) fn fp ∧
      (∀ post : Int32 → St2 → Prop, post 0 (nI NC, nI TC, nI tc, nI nc, fail, res, nI F, nI us', nI ob', nI fc', val', tm, mk, kd, par, num, ann, rcv, bod, mc, ml, mb, cd, cb', ce', org', co', cr', fn', fe', fp') → wpX_advance post (nI NC, nI TC, nI tc, nI nc, fail, res, nI F, nI us, nI ob, nI (q + 1), val, tm, mk, kd, par, num, ann, rcv, bod, mc, ml, mb, cd, cb, ce, org, co, cr, fn, fe, fp))) ∨
      (∃ (c us' : Nat) (co' cr' fp' : Nat → Int32), (c = 3 ∨ c = 4 ∨ c = 5) ∧ us' ≤ F ∧
      (∀ post : Int32 → St2 → Prop, post (nI c) (nI NC, nI TC, nI tc, nI nc, fail, res, nI F, nI us', nI ob, nI (q + 1), val, tm, mk, kd, par, num, ann, rcv, bod, mc, ml, mb, cd, cb, ce, org, co', cr', fn, fe, fp') → wpX_advance post (nI NC, nI TC, nI tc, nI nc, fail, res, nI F, nI us, nI ob, nI (q + 1), val, tm, mk, kd, par, num, ann, rcv, bod, mc, ml, mb, cd, cb, ce, org, co, cr, fn, fe, fp))) := by
    intro a a1 a2 a3 a4 a5 a6
    obtain ⟨p1, p2, p3⟩ := oc_kid (r := r) hc N w1 w2 a1 a3
    have hX : ∀ post : Int32 → St2 → Prop, (q + 1 < 48 → post 0 (nI NC, nI TC, nI tc, nI nc, fail, res, nI F, nI us, nI ob, nI (q + 2), val, tm, mk, kd, par, num, ann, rcv, bod, mc, ml, mb, cd, cb, ce, org, co, cr, upd fn (q + 1) (nI a), upd fe (q + 1) (fe q), upd (upd fp q 1) (q + 1) 0)) → (¬ q + 1 < 48 → post 4 (nI NC, nI TC, nI tc, nI nc, fail, res, nI F, nI us, nI ob, nI (q + 1), val, tm, mk, kd, par, num, ann, rcv, bod, mc, ml, mb, cd, cb, ce, org, co, cr, fn, fe, upd fp q 1)) → wpX_advance post (nI NC, nI TC, nI tc, nI nc, fail, res, nI F, nI us, nI ob, nI (q + 1), val, tm, mk, kd, par, num, ann, rcv, bod, mc, ml, mb, cd, cb, ce, org, co, cr, fn, fe, fp) := fun post h1 h0 => by
      rw [← a2] at h1
      have g := oc_xs0 (e := fe q) hq hn32 a6 h1 h0
      rcases a5 with z | z
      · exact oc_xa2 hq hn32 w3 z g.1
      · exact oc_xa3 hq hn32 w3 z g.2
    by_cases z : q + 1 < 48
    · left
      refine ⟨us, ob, q + 2, val, cb, ce, org, co, cr, upd fn (q + 1) (nI a), upd fe (q + 1) (fe q), upd (upd fp q 1) (q + 1) 0, ty, ?_, ?_, fun post h => hX post (fun _ => h) (fun w => absurd z w)⟩
      · refine oc_TM_push hP hc M0 z (Nat.le_refl _) m1 (fun _ _ => ⟨rfl, rfl⟩) w1 w3 (Or.inl ⟨rfl, a5⟩) (by omega) p1 ((oc_ET_2 a3 a1 (by omega) (by omega) a4).mpr w5) (fun _ => ?_) (fun y => absurd rfl y)
        rw [a2, nI_clamp (by omega)]
        exact Or.inl rfl
      · refine oc_Ph_push (by omega) ?_
        have e : oc_wt fn fp q = 3 * n + 3 := by
          unfold oc_wt
          rw [if_pos a6, w3, nI_clamp (by omega)]
        rw [e, if_neg (by decide), if_pos rfl]
        omega
    · right
      exact ⟨4, us, co, cr, upd fp q 1, by omega, m1, fun post h => hX post (fun w => absurd w z) (fun _ => h)⟩
  have exq : ¬ fp q = 0 → ((∃ q', q + 1 = q' + 1 ∧ fp q' = 0) ∨ ∃ o, o < ob ∧ val = nI o ∧ oc_sub tm (ty o) (oc_ex rt rcv fn fp r (q + 1))) → ∃ o, o < ob ∧ val = nI o ∧ oc_sub tm (ty o) (if fp q = 1 then (rt (rcv n).toNatClampNeg).toNatClampNeg else (rt n).toNatClampNeg) := fun z w => by
    rcases w with ⟨q', e1, e2⟩ | ⟨o, o1, o2, o3⟩
    · have : q' = q := by omega
      subst this
      exact absurd e2 z
    · refine ⟨o, o1, o2, ?_⟩
      rw [oc_ex_s, w3, nI_clamp (by omega)] at o3
      exact o3
  rcases oc_kd N w1 with k1 | k1 | k1 | k1
  · -- a variable
    obtain ⟨k, p, A, hk, ek, hp, hb, hAt, eA, eT⟩ := oc_tV hc htc hr N T le k1 ht
    obtain ⟨o, o1, o2, o3⟩ := oc_ET_CH hP hc n w1 k (fe q) w5 hb
    rw [eA, nI_clamp (by omega)] at o3
    left
    refine ⟨us, ob, q, nI o, cb, ce, org, co, cr, fn, fe, fp, ty, oc_TM_pop hP hc M0 (Nat.le_refl _) m2 (fun _ _ => rfl) mO o1 w1 w3 ?_, oc_Ph_pop, fun post h => oc_xa0 hq hn32 w3 k1 ⟨k + 1, oc_xlook (by omega) hn32 hk ek h k 0 (fe q) (by omega) o2⟩⟩
    rw [eT, nI_clamp (by omega)]
    exact o3
  · -- a literal
    obtain ⟨A, m, hA1, hA0, eA, eT, em, hm8, L, hb⟩ := oc_tO hc htc hr N Y T le k1 ht
    have hl : ∀ i, i < m → ∃ l, l < 16 ∧ ml (n * 8 + i) = nI l := fun i hi => by
      obtain ⟨l, b, u, m', y1, y2, -⟩ := hb i hi
      exact ⟨l, y1, y2⟩
    have cm : (mc n).toNatClampNeg = m := by rw [em, nI_clamp (by omega)]
    have hd := D n w1 k1
    rw [cm] at hd
    by_cases z : ob = 32
    · right
      refine ⟨5, us, co, cr, fp, by omega, m1, fun post h => oc_xa1 hq hn32 w3 k1 ?_⟩
      unfold wpX_advanceObject
      exact br_f (nI_nlt (b := 32) (by omega) (by omega)) h
    · left
      refine ⟨us, ob + 1, q, nI ob, oc_mt (oc_fi cb ob (-1) 16) ml mb ob n m, oc_mt ce ml (fun _ => fe q) ob n m, upd org ob (ann n), co, cr, fn, fe, fp, oc_tyU ty ob A, oc_TM_pop hP hc M0 (by omega) (by omega) (fun o ho => oc_tyU_lo ho) (oc_TO_obj (num := num) (rcv := rcv) hc htc hP w1 w2 k1 hA1 hA0 eA em hm8 L hd hb w5 mO) (Nat.lt_succ_self ob) w1 w3 ?_, oc_Ph_pop, fun post h => oc_xa1 hq hn32 w3 k1 (oc_xob hn32 (by omega) em hm8 hl h)⟩
      rw [oc_tyU_at, eT, nI_clamp (by omega)]
      exact Or.inl rfl
  · -- an invocation
    obtain ⟨l, a, k, m', hl, el, eb, ha, era, epa, hk, hk0, erk, hm', emk, eT⟩ := oc_tS hc htc hr N Y T le k1 ht
    rcases w9 with ⟨f0, -⟩ | ⟨f1, -⟩ | ⟨f2, -⟩
    · refine recv a ha era epa (fun w => ?_) (Or.inl k1) f0
      rcases w with w | w
      · rw [k1] at w; exact absurd w (by decide)
      · rw [eb] at w; exact absurd w (oc_m1' (by omega))
    · obtain ⟨v, v1, rfl, v3⟩ := exq (by rw [f1]; decide) mV
      rw [if_pos f1, era, nI_clamp (by omega), erk, nI_clamp (by omega)] at v3
      have etm := oc_sub_me v3 hk0 hl (by rw [emk]; exact oc_m1 (by omega))
      rw [emk] at etm
      obtain ⟨b, p, u, x1, x2, x3, x4, x5, z3, x7, x8, x9, x10, x11⟩ := (mO v v1).2.2 l hl m' hm' etm
      have nz : ¬ cb (v * 16 + l) = -1 := by rw [z3]; exact oc_m1 (by omega)
      have lep := oc_li_le hP hc p x2 x4
      by_cases y : us = F
      · right
        refine ⟨3, us, co, cr, fp, by omega, m1, fun post h => oc_xa2 hq hn32 w3 k1 ?_⟩
        exact oc_xs1 hF m1 hq hn32 (by omega) hl f1 el (fun y' => absurd y' nz) (fun _ _ => h) (fun _ y' => by omega) (fun _ y' => by omega)
      have hX : ∀ post : Int32 → St2 → Prop, (q + 1 < 48 → post 0 (nI NC, nI TC, nI tc, nI nc, fail, res, nI F, nI (us + 1), nI ob, nI (q + 2), nI v, tm, mk, kd, par, num, ann, rcv, bod, mc, ml, mb, cd, cb, ce, org, upd co us (nI v), upd cr us (ce (v * 16 + l)), upd fn (q + 1) (nI b), upd fe (q + 1) (nI us), upd (upd fp q 2) (q + 1) 0)) →
          (¬ q + 1 < 48 → post 4 (nI NC, nI TC, nI tc, nI nc, fail, res, nI F, nI (us + 1), nI ob, nI (q + 1), nI v, tm, mk, kd, par, num, ann, rcv, bod, mc, ml, mb, cd, cb, ce, org, upd co us (nI v), upd cr us (ce (v * 16 + l)), fn, fe, upd fp q 2)) → wpX_advance post (nI NC, nI TC, nI tc, nI nc, fail, res, nI F, nI us, nI ob, nI (q + 1), nI v, tm, mk, kd, par, num, ann, rcv, bod, mc, ml, mb, cd, cb, ce, org, co, cr, fn, fe, fp) := fun post h1 h0 => by
        rw [← z3] at h1
        exact oc_xa2 hq hn32 w3 k1 (oc_xs1 hF m1 hq hn32 (by omega) hl f1 el (fun y' => absurd y' nz) (fun _ y' => absurd y' y) (fun _ _ => h1) (fun _ _ => h0))
      by_cases z' : q + 1 < 48
      · left
        have agree : ∀ c, c < us → upd co us (nI v) c = co c ∧ upd cr us (ce (v * 16 + l)) c = cr c := fun c hc' => ⟨pk_un (by omega), pk_un (by omega)⟩
        refine ⟨us + 1, ob, q + 2, nI v, cb, ce, org, upd co us (nI v), upd cr us (ce (v * 16 + l)), upd fn (q + 1) (nI b), upd fe (q + 1) (nI us), upd (upd fp q 2) (q + 1) 0, ty, ?_, ?_, fun post h => hX post (fun _ => h) (fun w => absurd z' w)⟩
        · refine oc_TM_push hP hc M0 z' (by omega) (by omega) agree w1 w3 (Or.inr ⟨rfl, k1⟩) (by omega) (by rw [oc_li_s x3 x1 (by omega) (by omega)]; exact x4) ?_ (fun y' => absurd y' (by decide)) (fun _ => ?_)
          · refine (oc_ET_1 x3 x1 (by omega) (by omega) x5).mpr ⟨us, v, by omega, rfl, v1, pk_us, x10, ?_⟩
            rw [pk_us]
            exact oc_ET_mo hP hc (by omega) (Nat.le_refl _) agree (fun _ _ => rfl) p x2 _ x11
          · rw [x8, eT, nI_clamp (by omega), nI_clamp (by omega)]
            exact x9
        · refine oc_Ph_push (by omega) ?_
          have e : oc_wt fn fp q = 2 := by
            unfold oc_wt
            rw [if_neg (by rw [f1]; decide), if_pos f1]
          rw [e, if_neg (by decide), if_neg (by decide)]
          omega
      · right
        exact ⟨4, us + 1, upd co us (nI v), upd cr us (ce (v * 16 + l)), upd fp q 2, by omega, by omega, fun post h => hX post (fun w => absurd w z') (fun _ => h)⟩
    · obtain ⟨v, v1, rfl, v3⟩ := exq (by rw [f2]; decide) mV
      rw [if_neg (by rw [f2]; decide)] at v3
      left
      exact ⟨us, ob, q, nI v, cb, ce, org, co, cr, fn, fe, fp, ty, oc_TM_pop hP hc M0 (Nat.le_refl _) m2 (fun _ _ => rfl) mO v1 w1 w3 v3, oc_Ph_pop, fun post h => oc_xa2 hq hn32 w3 k1 (oc_xs2 hq f2 h)⟩
  · -- an update
    obtain ⟨l, a, b, A, k, u, m', hl, el, ha, hb, nab, era, erb, epa, epb, hA1, hA0, eA, eT, hk, erk, hs, hu, eru, hm', emA, hsu⟩ := oc_tU hc htc hr N Y T le k1 ht
    rcases w9 with ⟨f0, -⟩ | ⟨f1, -⟩ | ⟨f2, y⟩
    · refine recv a ha era epa (fun w => ?_) (Or.inr k1) f0
      rcases w with w | w
      · rw [k1] at w; exact absurd w (by decide)
      · rw [erb, nI_eq (by omega) (by omega)] at w; exact nab w.symm
    · obtain ⟨v, v1, rfl, v3⟩ := exq (by rw [f1]; decide) mV
      rw [if_pos f1, era, nI_clamp (by omega), erk, nI_clamp (by omega)] at v3
      have v4 := oc_sub_tr v3 hs
      have etm := oc_sub_me v4 hA0 hl (by rw [emA]; exact oc_m1 (by omega))
      rw [emA] at etm
      obtain ⟨b', p, u', x1, x2, x3, x4, x5, z3, -⟩ := (mO v v1).2.2 l hl m' hm' etm
      have nz : ¬ cb (v * 16 + l) = -1 := by rw [z3]; exact oc_m1 (by omega)
      by_cases y : ob = 32
      · right
        refine ⟨5, us, co, cr, fp, by omega, m1, fun post h => oc_xa3 hq hn32 w3 k1 ?_⟩
        exact oc_xu1 m2 hq hn32 v1 hl f1 el (fun y' => absurd y' nz) (fun _ _ => h) (fun _ y' => by omega)
      left
      refine ⟨us, ob + 1, q, nI ob, upd (oc_tc cb v ob 16) (ob * 16 + l) (nI b), upd (oc_tc ce v ob 16) (ob * 16 + l) (fe q), upd org ob (ann n), co, cr, fn, fe, fp, oc_tyU ty ob (ty v), oc_TM_pop hP hc M0 (by omega) (by omega) (fun o ho => oc_tyU_lo ho) (oc_TO_upd hc htc hP w1 w2 hb erb epb v1 hl eA hA1 v4 hu eru hm' etm hsu w5 mO) (Nat.lt_succ_self ob) w1 w3 ?_, oc_Ph_pop, fun post h => ?_⟩
      · rw [oc_tyU_at, eT, nI_clamp (by omega)]
        exact v4
      · rw [← erb] at h
        exact oc_xa3 hq hn32 w3 k1 (oc_xu1 m2 hq hn32 v1 hl f1 el (fun y' => absurd y' nz) (fun _ y' => absurd y' y) (fun _ _ => h))
    · rw [k1] at y; exact absurd y (by decide)
end
section
/-! the invariant of the class, and each method that keeps it -/
def oc_I (NC TC tc nc us ob : Nat) (res : Int32) (tm mk kd par num ann rcv bod mc ml mb : Nat → Int32) : Prop :=
  NC ≤ 32 ∧ TC ≤ 32 ∧ 2 ≤ tc ∧ tc ≤ TC ∧ nc ≤ NC ∧ us ≤ 128 ∧ ob ≤ 32 ∧ oc_Nd nc tc kd par num ann rcv bod mc ml mb ∧ oc_Ty tc tm mk ∧ (∀ n, nc ≤ n → mc n = 0) ∧
  oc_Kd nc kd par rcv bod mc mb ∧ oc_Ld nc kd mc ml ∧ (res = -1 ∨ ∃ o, o < ob ∧ res = nI o)
def oc_J (u : St2) : Prop := ∃ (NC TC tc nc us ob : Nat) (fail res fl fc val : Int32) (tm mk kd par num ann rcv bod mc ml mb cd cb ce org co cr fn fe fp : Nat → Int32), u = (nI NC, nI TC, nI tc, nI nc, fail, res, fl, nI us, nI ob, fc, val, tm, mk, kd, par, num, ann, rcv, bod, mc, ml, mb, cd, cb, ce, org, co, cr, fn, fe, fp) ∧ oc_I NC TC tc nc us ob res tm mk kd par num ann rcv bod mc ml mb
theorem oc_jm {NC TC tc nc us ob : Nat} {fail res fl fc val : Int32} {tm mk kd par num ann rcv bod mc ml mb cd cb ce org co cr fn fe fp : Nat → Int32} (h : oc_I NC TC tc nc us ob res tm mk kd par num ann rcv bod mc ml mb) : oc_J (nI NC, nI TC, nI tc, nI nc, fail, res, fl, nI us, nI ob, fc, val, tm, mk, kd, par, num, ann, rcv, bod, mc, ml, mb, cd, cb, ce, org, co, cr, fn, fe, fp) := ⟨NC, TC, tc, nc, us, ob, fail, res, fl, fc, val, tm, mk, kd, par, num, ann, rcv, bod, mc, ml, mb, cd, cb, ce, org, co, cr, fn, fe, fp, rfl, h⟩
theorem oc_np {nc tc : Nat} {kd par num ann rcv bod mc ml mb : Nat → Int32} (hc : nc ≤ 32) (N : oc_Nd nc tc kd par num ann rcv bod mc ml mb) : ∀ n, n < nc → ¬ par n = nI nc := fun n hn q => by
  rcases oc_Nd_Pa N n hn with h | ⟨p, h1, h2, h3⟩
  · rw [q] at h; exact oc_m1 (by omega) h
  · rw [q, nI_eq (by omega) (by omega)] at h3; omega
theorem oc_jt {u : St2} {post : Int32 → Prop} (I : oc_J u) (h : ∀ r, post r) (v1 v2 : Int32) : wpX_typeMember post u v1 v2 := by
  obtain ⟨NC, TC, tc, nc, us, ob, fail, res, fl, fc, val, tm, mk, kd, par, num, ann, rcv, bod, mc, ml, mb, cd, cb, ce, org, co, cr, fn, fe, fp, rfl, h1, h2, h3, h4, h5, -⟩ := I
  unfold wpX_typeMember
  rcases oc_ix v1 (n := tc) (by omega) with a | ⟨a, ha, rfl⟩
  · exact oc_xT0 a (h _)
  refine oc_xT1 ha (by omega) ?_
  rcases oc_ix v2 (n := 16) (by omega) with b | ⟨b, hb, rfl⟩
  · exact oc_xL0 b (h _)
  · exact oc_xL1 hb ⟨oc_v16 (by omega) hb, h _⟩
theorem oc_jn {u : St2} {post : Int32 → Prop} (I : oc_J u) (h : ∀ r, post r) (v1 : Int32) : wpX_nodeParent post u v1 := by
  obtain ⟨NC, TC, tc, nc, us, ob, fail, res, fl, fc, val, tm, mk, kd, par, num, ann, rcv, bod, mc, ml, mb, cd, cb, ce, org, co, cr, fn, fe, fp, rfl, h1, h2, h3, h4, h5, -⟩ := I
  unfold wpX_nodeParent
  rcases oc_ix v1 (n := nc) (by omega) with a | ⟨a, ha, rfl⟩
  · exact oc_xN0 a (h _)
  · exact oc_xN1 ha (by omega) ⟨vp_in_nI (by omega) (by omega), h _⟩
theorem oc_jb {u : St2} {post : Int32 → Prop} (I : oc_J u) (h : ∀ r, post r) (v1 v2 : Int32) : wpX_isSubtype post u v1 v2 := by
  obtain ⟨NC, TC, tc, nc, us, ob, fail, res, fl, fc, val, tm, mk, kd, par, num, ann, rcv, bod, mc, ml, mb, cd, cb, ce, org, co, cr, fn, fe, fp, rfl, h1, h2, h3, h4, h5, -⟩ := I
  unfold wpX_isSubtype
  rcases oc_ix v1 (n := tc) (by omega) with a | ⟨a, ha, rfl⟩
  · exact oc_xT0 a (h _)
  refine oc_xT1 ha (by omega) ?_
  rcases oc_ix v2 (n := tc) (by omega) with b | ⟨b, hb, rfl⟩
  · exact oc_xT0 b (h _)
  · exact oc_xT1 hb (by omega) (oc_xfits (by omega) (by omega) (fun s => br_f oc_10 (h _)) (fun s => br_t rfl (h _)))
theorem oc_jv {u : St2} {post : Int32 → St2 → Prop} (I : oc_J u) (h : ∀ r u', oc_J u' → post r u') (v1 : Int32) : wpX_variable post u v1 := by
  have J := I
  obtain ⟨NC, TC, tc, nc, us, ob, fail, res, fl, fc, val, tm, mk, kd, par, num, ann, rcv, bod, mc, ml, mb, cd, cb, ce, org, co, cr, fn, fe, fp, rfl, h1, h2, h3, h4, h5, h6, h7, hN, hT, hm, hK, hL, hr⟩ := I
  rcases oc_ix v1 (n := 16) (by omega) with b | ⟨b, hb, rfl⟩
  · exact oc_la0 b (h _ _ J)
  refine oc_la1 hb (pk_lt nc NC (fun q => ?_) (fun q => h _ _ J))
  refine oc_xnode (by omega) (h _ _ (oc_jm ⟨h1, h2, h3, h4, by omega, h6, h7, ?_, hT, fun n hn => hm n (by omega), ?_, ?_, hr⟩))
  · refine oc_Nd_new (by omega) hN (fun n hn => ?_) (fun n hn => Or.inl (pk_un (by omega))) ?_
    · rw [pk_un (by omega), pk_un (by omega), pk_un (by omega), pk_un (by omega), pk_un (by omega)]
      exact ⟨rfl, rfl, rfl, rfl, rfl⟩
    · exact ⟨Or.inl pk_us, Or.inl ⟨pk_us, pk_us, b, hb, pk_us⟩⟩
  · exact oc_Kd_new (by omega) hK (fun n hn => ⟨pk_un (by omega), pk_un (by omega), pk_un (by omega)⟩) pk_us (fun n hn => Or.inl (pk_un (by omega))) (oc_np (by omega) hN)
  · exact oc_Ld_new hL (fun n hn => pk_un (by omega)) (hm nc (Nat.le_refl _))
theorem oc_jo {u : St2} {post : Int32 → St2 → Prop} (I : oc_J u) (h : ∀ r u', oc_J u' → post r u') (v1 : Int32) : wpX_object post u v1 := by
  have J := I
  obtain ⟨NC, TC, tc, nc, us, ob, fail, res, fl, fc, val, tm, mk, kd, par, num, ann, rcv, bod, mc, ml, mb, cd, cb, ce, org, co, cr, fn, fe, fp, rfl, h1, h2, h3, h4, h5, h6, h7, hN, hT, hm, hK, hL, hr⟩ := I
  unfold wpX_object
  rcases oc_ix v1 (n := tc) (by omega) with b | ⟨b, hb, rfl⟩
  · exact oc_xT0 b (h _ _ J)
  refine oc_xT1 hb (by omega) (pk_lt nc NC (fun q => ?_) (fun q => h _ _ J))
  refine oc_xnode (by omega) (h _ _ (oc_jm ⟨h1, h2, h3, h4, by omega, h6, h7, ?_, hT, fun n hn => hm n (by omega), ?_, ?_, hr⟩))
  · refine oc_Nd_new (by omega) hN (fun n hn => ?_) (fun n hn => Or.inl (pk_un (by omega))) ?_
    · rw [pk_un (by omega), pk_un (by omega), pk_un (by omega), pk_un (by omega), pk_un (by omega)]
      exact ⟨rfl, rfl, rfl, rfl, rfl⟩
    · exact ⟨Or.inl pk_us, Or.inr (Or.inl ⟨pk_us, pk_us, ⟨b, hb, pk_us⟩, 0, by omega, hm nc (Nat.le_refl _), fun i hi => absurd hi (Nat.not_lt_zero _), fun i j hi => absurd hi (Nat.not_lt_zero _)⟩)⟩
  · exact oc_Kd_new (by omega) hK (fun n hn => ⟨pk_un (by omega), pk_un (by omega), pk_un (by omega)⟩) pk_us (fun n hn => Or.inl (pk_un (by omega))) (oc_np (by omega) hN)
  · exact oc_Ld_new hL (fun n hn => pk_un (by omega)) (hm nc (Nat.le_refl _))
theorem oc_lo {nc : Nat} (par : Nat → Int32) (t : Int32) (hn : nc ≤ 32) : ((t < 0 ∨ nI nc ≤ t) ∨ ∃ j, j < nc ∧ t = nI j ∧ ¬ par j = -1) ∨ ∃ j, j < nc ∧ t = nI j ∧ par j = -1 := by
  rcases oc_ix t (n := nc) (by omega) with a | ⟨a, ha, rfl⟩
  · exact Or.inl (Or.inl a)
  · by_cases hp : par a = -1
    · exact Or.inr ⟨a, ha, rfl, hp⟩
    · exact Or.inl (Or.inr ⟨a, ha, rfl, hp⟩)
theorem oc_js {u : St2} {post : Int32 → St2 → Prop} (I : oc_J u) (h : ∀ r u', oc_J u' → post r u') (v1 v2 : Int32) : wpX_select post u v1 v2 := by
  have J := I
  obtain ⟨NC, TC, tc, nc, us, ob, fail, res, fl, fc, val, tm, mk, kd, par, num, ann, rcv, bod, mc, ml, mb, cd, cb, ce, org, co, cr, fn, fe, fp, rfl, h1, h2, h3, h4, h5, h6, h7, hN, hT, hm, hK, hL, hr⟩ := I
  unfold wpX_select
  rcases oc_lo par v1 (show nc ≤ 32 by omega) with a | ⟨a, ha, rfl, hp⟩
  · exact oc_xLo0 (by omega) a (h _ _ J)
  have va : vp_in (nI a) 32 := vp_in_nI (by omega) (by omega)
  have ca : (nI a).toNatClampNeg = a := nI_clamp (by omega)
  refine oc_xLo1 ha (by omega) hp ?_
  rcases oc_ix v2 (n := 16) (by omega) with b | ⟨b, hb, rfl⟩
  · exact oc_xL0 b (h _ _ J)
  refine oc_xL1 hb (pk_lt nc NC (fun q => ?_) (fun q => h _ _ J))
  refine oc_xnode (by omega) ⟨vp_in_nI (by omega) (by omega), nm_e ⟨va, nm_e ?_⟩⟩
  rw [ca, nI_clamp (n := nc) (by omega), oc_uu]
  refine h _ _ (oc_jm ⟨h1, h2, h3, h4, by omega, h6, h7, ?_, hT, fun n hn => hm n (by omega), ?_, ?_, hr⟩)
  · refine oc_Nd_new (by omega) hN (fun n hn => ?_) (fun n hn => ?_) ?_
    · rw [pk_un (by omega), pk_un (by omega), pk_un (by omega), pk_un (by omega), pk_un (by omega)]
      exact ⟨rfl, rfl, rfl, rfl, rfl⟩
    · by_cases y : n = a
      · rw [y, pk_us]; exact Or.inr ⟨hp, rfl⟩
      · rw [pk_un y, pk_un (by omega)]; exact Or.inl rfl
    · refine ⟨Or.inl ?_, Or.inr (Or.inr (Or.inl ⟨pk_us, pk_us, ⟨b, hb, pk_us⟩, a, ha, pk_us, pk_us⟩))⟩
      rw [pk_un (by omega), pk_us]
  · refine oc_Kd_new (by omega) hK (fun n hn => ⟨pk_un (by omega), pk_un (by omega), pk_un (by omega)⟩) (by rw [pk_un (by omega), pk_us]) (fun n hn => ?_) (oc_np (by omega) hN)
    by_cases y : n = a
    · rw [y, pk_us]; exact Or.inr ⟨rfl, Or.inl ⟨pk_us, pk_us⟩⟩
    · rw [pk_un y, pk_un (by omega)]; exact Or.inl rfl
  · exact oc_Ld_new hL (fun n hn => pk_un (by omega)) (hm nc (Nat.le_refl _))
theorem oc_ju {u : St2} {post : Int32 → St2 → Prop} (I : oc_J u) (h : ∀ r u', oc_J u' → post r u') (v1 v2 v3 v4 : Int32) : wpX_update post u v1 v2 v3 v4 := by
  have J := I
  obtain ⟨NC, TC, tc, nc, us, ob, fail, res, fl, fc, val, tm, mk, kd, par, num, ann, rcv, bod, mc, ml, mb, cd, cb, ce, org, co, cr, fn, fe, fp, rfl, h1, h2, h3, h4, h5, h6, h7, hN, hT, hm, hK, hL, hr⟩ := I
  unfold wpX_update
  rcases oc_lo par v1 (show nc ≤ 32 by omega) with a | ⟨a, ha, rfl, hp⟩
  · exact oc_xLo0 (by omega) a (h _ _ J)
  have va : vp_in (nI a) 32 := vp_in_nI (by omega) (by omega)
  have ca : (nI a).toNatClampNeg = a := nI_clamp (by omega)
  refine oc_xLo1 ha (by omega) hp ?_
  rcases oc_lo par v4 (show nc ≤ 32 by omega) with d | ⟨d, hd, rfl, hq⟩
  · exact oc_xLo0 (by omega) d (h _ _ J)
  have vd : vp_in (nI d) 32 := vp_in_nI (by omega) (by omega)
  have cd' : (nI d).toNatClampNeg = d := nI_clamp (by omega)
  refine oc_xLo1 hd (by omega) hq (pk_eq a d (fun e => h _ _ J) (fun e => ?_))
  rcases oc_ix v2 (n := 16) (by omega) with b | ⟨b, hb, rfl⟩
  · exact oc_xL0 b (h _ _ J)
  refine oc_xL1 hb ?_
  rcases oc_ix v3 (n := tc) (by omega) with t | ⟨t, ht, rfl⟩
  · exact oc_xT0 t (h _ _ J)
  refine oc_xT1 ht (by omega) (pk_lt nc NC (fun q => ?_) (fun q => h _ _ J))
  refine oc_xnode (by omega) ⟨vp_in_nI (by omega) (by omega), nm_e ⟨vp_in_nI (by omega) (by omega), nm_e ⟨va, nm_e ⟨vd, nm_e ?_⟩⟩⟩⟩
  rw [ca, cd', nI_clamp (n := nc) (by omega), oc_uu, oc_uu]
  refine h _ _ (oc_jm ⟨h1, h2, h3, h4, by omega, h6, h7, ?_, hT, fun n hn => hm n (by omega), ?_, ?_, hr⟩)
  · refine oc_Nd_new (by omega) hN (fun n hn => ?_) (fun n hn => ?_) ?_
    · rw [pk_un (by omega), pk_un (by omega), pk_un (by omega), pk_un (by omega), pk_un (by omega)]
      exact ⟨rfl, rfl, rfl, rfl, rfl⟩
    · by_cases y : n = d
      · rw [y, pk_us]; exact Or.inr ⟨hq, rfl⟩
      · rw [pk_un y]
        by_cases y' : n = a
        · rw [y', pk_us]; exact Or.inr ⟨hp, rfl⟩
        · rw [pk_un y', pk_un (by omega)]; exact Or.inl rfl
    · refine ⟨Or.inl ?_, Or.inr (Or.inr (Or.inr ⟨pk_us, ⟨b, hb, pk_us⟩, ⟨t, ht, pk_us⟩, a, d, ha, hd, e, pk_us, pk_us, ?_, pk_us⟩))⟩
      · rw [pk_un (by omega), pk_un (by omega), pk_us]
      · rw [pk_un e, pk_us]
  · refine oc_Kd_new (by omega) hK (fun n hn => ⟨pk_un (by omega), pk_un (by omega), pk_un (by omega)⟩) (by rw [pk_un (by omega), pk_un (by omega), pk_us]) (fun n hn => ?_) (oc_np (by omega) hN)
    by_cases y : n = d
    · rw [y, pk_us]; exact Or.inr ⟨rfl, Or.inr ⟨pk_us, Or.inr pk_us⟩⟩
    · rw [pk_un y]
      by_cases y' : n = a
      · rw [y', pk_us]; exact Or.inr ⟨rfl, Or.inr ⟨pk_us, Or.inl pk_us⟩⟩
      · rw [pk_un y', pk_un (by omega)]; exact Or.inl rfl
  · exact oc_Ld_new hL (fun n hn => pk_un (by omega)) (hm nc (Nat.le_refl _))
theorem oc_ja {u : St2} {post : Int32 → St2 → Prop} (I : oc_J u) (h : ∀ r u', oc_J u' → post r u') (v1 v2 v3 : Int32) : wpX_addMethod post u v1 v2 v3 := by
  have J := I
  obtain ⟨NC, TC, tc, nc, us, ob, fail, res, fl, fc, val, tm, mk, kd, par, num, ann, rcv, bod, mc, ml, mb, cd, cb, ce, org, co, cr, fn, fe, fp, rfl, h1, h2, h3, h4, h5, h6, h7, hN, hT, hm, hK, hL, hr⟩ := I
  unfold wpX_addMethod
  rcases oc_ix v1 (n := nc) (by omega) with a | ⟨a, ha, rfl⟩
  · exact oc_xN0 a (h _ _ J)
  have va : vp_in (nI a) 32 := vp_in_nI (by omega) (by omega)
  have ca : (nI a).toNatClampNeg = a := nI_clamp (by omega)
  refine oc_xN1 ha (by omega) ⟨va, ?_⟩
  rw [ca]
  refine br_c (fun hk1 => ?_) (fun _ => h _ _ J)
  rcases oc_ix v2 (n := 16) (by omega) with b | ⟨b, hb, rfl⟩
  · exact oc_xL0 b (h _ _ J)
  refine oc_xL1 hb ?_
  rcases oc_lo par v3 (show nc ≤ 32 by omega) with d | ⟨d, hd, rfl, hp⟩
  · exact oc_xLo0 (by omega) d (h _ _ J)
  have vd : vp_in (nI d) 32 := vp_in_nI (by omega) (by omega)
  have cd' : (nI d).toNatClampNeg = d := nI_clamp (by omega)
  refine oc_xLo1 hd (by omega) hp (pk_lt d a (fun e => ?_) (fun e => h _ _ J))
  obtain ⟨-, ⟨k1, -⟩ | ⟨k1, k2, k3, m, w4, w5, w6, w7⟩ | ⟨k1, -⟩ | ⟨k1, -⟩⟩ := hN a ha
  · rw [hk1] at k1; exact absurd k1 (by decide)
  · refine oc_xhas (by omega) w5 w4 (fun q => br_f oc_10 (h _ _ J)) (fun q => br_t rfl ⟨va, ?_⟩)
    rw [w5]
    refine pk_lt m 8 (fun m8 => ⟨va, nm_e ⟨?_, nm_e ⟨?_, nm_e ⟨va, va, nm_e ⟨vd, nm_e ?_⟩⟩⟩⟩⟩) (fun m8 => h _ _ J)
    · exact oc_v8 (by omega) m8
    · exact oc_v8 (by omega) m8
    · rw [oc_k8 (by omega) m8, cd', nI_1]
      refine h _ _ (oc_jm ⟨h1, h2, h3, h4, h5, h6, h7, oc_Nd_add (by omega) hN ha hk1 e hp w5 m8 hb, hT, fun n hn => ?_, oc_Kd_add (by omega) hK (oc_m8 hN) ha hk1 e w5 m8, oc_Ld_add (by omega) hL (oc_m8 hN) ha w5 m8 q, hr⟩)
      rw [pk_un (by omega)]
      exact hm n hn
  · rw [hk1] at k1; exact absurd k1 (by decide)
  · rw [hk1] at k1; exact absurd k1 (by decide)
theorem oc_je {u : St2} {post : Int32 → St2 → Prop} (I : oc_J u) (h : ∀ r u', oc_J u' → post r u') (v1 v2 v3 : Int32) : wpX_extendType post u v1 v2 v3 := by
  have J := I
  obtain ⟨NC, TC, tc, nc, us, ob, fail, res, fl, fc, val, tm, mk, kd, par, num, ann, rcv, bod, mc, ml, mb, cd, cb, ce, org, co, cr, fn, fe, fp, rfl, h1, h2, h3, h4, h5, h6, h7, hN, hT, hm, hK, hL, hr⟩ := I
  unfold wpX_extendType
  rcases oc_ix v1 (n := tc) (by omega) with a | ⟨a, ha, rfl⟩
  · exact oc_xT0 a (h _ _ J)
  refine oc_xT1 ha (by omega) (pk_eq a 0 (fun e => h _ _ J) (fun e => ?_))
  rcases oc_ix v2 (n := 16) (by omega) with b | ⟨b, hb, rfl⟩
  · exact oc_xL0 b (h _ _ J)
  refine oc_xL1 hb ?_
  rcases oc_ix v3 (n := tc) (by omega) with c | ⟨c, hc, rfl⟩
  · exact oc_xT0 c (h _ _ J)
  refine oc_xT1 hc (by omega) ⟨oc_v16 (by omega) hb, ?_⟩
  rw [oc_k16 (by omega) hb]
  refine br_c (fun z => ⟨vp_in_nI (by omega) (by omega), ?_⟩) (fun _ => h _ _ J)
  rw [nI_clamp (n := a) (by omega), (hT.2 a ha).1]
  have l16 := oc_lc_16 tm a
  refine pk_lt (oc_lc tm a) 8 (fun q => ⟨tc + 1, ?_⟩) (fun q => h _ _ J)
  refine oc_xfind h2 h4 ha hb (hT.2 a ha).1 tc 0 (by omega) (fun j j1 j2 j3 j4 => h _ _ J) (fun w => ⟨fun y => ?_, fun y => h _ _ J⟩)
  exact h _ _ (oc_jm ⟨h1, h2, by omega, by omega, h5, h6, h7, oc_Nd_tc hN (by omega), oc_Ty_new hT h3 ha hb hc (by omega) z, hm, hK, hL, hr⟩)
/-! check: with the table of types that it stands for -/
def oc_CK (v1 T : Int32) (u : St2) : Prop := T < 0 ∨ ∃ (NC TC tc nc us ob : Nat) (fail res fl fc val : Int32) (tm mk kd par num ann rcv bod mc ml mb cd cb ce org co cr fn fe fp : Nat → Int32) (r t : Nat) (rt rn : Nat → Int32), u = (nI NC, nI TC, nI tc, nI nc, fail, res, fl, nI us, nI ob, fc, val, tm, mk, kd, par, num, ann, rcv, bod, mc, ml, mb, cd, cb, ce, org, co, cr, fn, fe, fp) ∧ oc_I NC TC tc nc us ob res tm mk kd par num ann rcv bod mc ml mb ∧ r < nc ∧ v1 = nI r ∧ oc_Tab tc tm kd par num ann rcv bod mc ml mb r rt rn (r + 1) ∧ t < tc ∧ rt r = nI t ∧ T = nI t
theorem oc_jc {u : St2} {post : Int32 → St2 → Prop} {v1 : Int32} (I : oc_J u) (h : ∀ r u', oc_J u' → oc_CK v1 r u' → post r u') : wpX_check post u v1 := by
  obtain ⟨NC, TC, tc, nc, us, ob, fail, res, fl, fc, val, tm, mk, kd, par, num, ann, rcv, bod, mc, ml, mb, cd, cb, ce, org, co, cr, fn, fe, fp, rfl, hI⟩ := I
  have H := hI
  obtain ⟨h1, h2, h3, h4, h5, h6, h7, hN, hT, hm, hK, hL, hr⟩ := hI
  unfold wpX_check
  rcases oc_ix v1 (n := nc) (by omega) with a | ⟨a, ha, rfl⟩
  · exact oc_xN0 a (h _ _ (oc_jm H) (Or.inl (by decide)))
  · refine oc_xN1 ha (by omega) ?_
    obtain ⟨rt, rn, Tb⟩ := oc_Tab_ex (r := a) (show nc ≤ 32 by omega) (show tc ≤ 32 by omega) hN hT (a + 1) (by omega)
    refine oc_xck (fail := fail) (by omega) (by omega) ha hN hT Tb (fun z cd' => ?_) (fun z cd' => ?_)
    · exact h _ _ (oc_jm H) (Or.inl z)
    · rcases (Tb a (by omega)).2 with y | ⟨t, y1, y2⟩
      · exact absurd y z
      · exact h _ _ (oc_jm H) (Or.inr ⟨NC, TC, tc, nc, us, ob, -1, res, fl, fc, val, tm, mk, kd, par, num, ann, rcv, bod, mc, ml, mb, cd', cb, ce, org, co, cr, fn, fe, fp, a, t, rt, rn, rfl, H, ha, rfl, Tb, y1, y2, y2⟩)
end
section
/-! runs of X -/
theorem oc_xev {NC TC tc nc us ob P sX q F : Nat} {fail val : Int32} {tm mk kd par num ann rcv bod mc ml mb cd cb ce org co cr fn fe fp : Nat → Int32} {post : Int32 → St2 → Prop} (h1 : sX + (P + 1) < 1000000) (hq : q < 48)
    (w : wpX_advance (fun r_37 u => match u with | (a0, a1, a2, a3, a4, a5, a6, a7, a8, a9, a10, b1, b2, b3, b4, b5, b6, b7, b8, b9, b10, b11, b12, b13, b14, b15, b16, b17, b18, b19, b20) => wX_evaluate_9 post (P + 2) r_37 (nI (sX + 1)) a0 a1 a2 a3 a4 a5 a6 a7 a8 a9 a10 b1 b2 b3 b4 b5 b6 b7 b8 b9 b10 b11 b12 b13 b14 b15 b16 b17 b18 b19 b20) (nI NC, nI TC, nI tc, nI nc, fail, -1, nI F, nI us, nI ob, nI (q + 1), val, tm, mk, kd, par, num, ann, rcv, bod, mc, ml, mb, cd, cb, ce, org, co, cr, fn, fe, fp)) :
    wX_evaluate_9 post (P + 1 + 2) 0 (nI sX) (nI NC) (nI TC) (nI tc) (nI nc) fail (-1) (nI F) (nI us) (nI ob) (nI (q + 1)) val tm mk kd par num ann rcv bod mc ml mb cd cb ce org co cr fn fe fp := by
  refine br_f (nI_ge (b := 1000000) (by omega) (by omega)) (br_t rfl (br_f (nI_nle (by omega) (by omega)) ?_))
  rw [nI_1]
  simp only [forall_eq]
  exact w
theorem oc_xe0 {NC TC tc nc us ob P sX F : Nat} {fail val : Int32} {tm mk kd par num ann rcv bod mc ml mb cd cb ce org co cr fn fe fp : Nat → Int32} {post : Int32 → St2 → Prop} (h1 : sX < 1000000) (h : post 0 (nI NC, nI TC, nI tc, nI nc, fail, val, nI F, nI us, nI ob, nI 0, val, tm, mk, kd, par, num, ann, rcv, bod, mc, ml, mb, cd, cb, ce, org, co, cr, fn, fe, fp)) :
    wX_evaluate_9 post (P + 2) 0 (nI sX) (nI NC) (nI TC) (nI tc) (nI nc) fail (-1) (nI F) (nI us) (nI ob) (nI 0) val tm mk kd par num ann rcv bod mc ml mb cd cb ce org co cr fn fe fp :=
  br_f (nI_ge (b := 1000000) (by omega) (by omega)) (br_t rfl (br_t (by decide) (br_t rfl h)))
theorem oc_xee {NC TC tc nc us ob P F c : Nat} {fail val fc s : Int32} {tm mk kd par num ann rcv bod mc ml mb cd cb ce org co cr fn fe fp : Nat → Int32} {post : Int32 → St2 → Prop} (c1 : 1 ≤ c) (c2 : c ≤ 5) (h : post (nI c) (nI NC, nI TC, nI tc, nI nc, fail, -1, nI F, nI us, nI ob, fc, val, tm, mk, kd, par, num, ann, rcv, bod, mc, ml, mb, cd, cb, ce, org, co, cr, fn, fe, fp)) :
    wX_evaluate_9 post (P + 1) (nI c) s (nI NC) (nI TC) (nI tc) (nI nc) fail (-1) (nI F) (nI us) (nI ob) fc val tm mk kd par num ann rcv bod mc ml mb cd cb ce org co cr fn fe fp := by
  have nc0 : ¬ nI c = 0 := nI_ne0 (by omega) (by omega)
  have e : wX_evaluate_37 post (nI c) (nI NC) (nI TC) (nI tc) (nI nc) fail (-1) (nI F) (nI us) (nI ob) fc val tm mk kd par num ann rcv bod mc ml mb cd cb ce org co cr fn fe fp := br_f nc0 h
  exact br_c (fun _ => e) (fun _ => br_f nc0 e)
theorem oc_xlock {NC TC tc nc : Nat} {fail : Int32} {tm mk kd par num ann rcv bod mc ml mb cd : Nat → Int32} {r F : Nat} (hc : nc ≤ 32) (htc : tc ≤ 32) (hF : F ≤ 128) (hr : r < nc) (N : oc_Nd nc tc kd par num ann rcv bod mc ml mb) (C : oc_Cl nc par kd num bod r) :
    ∀ (P us ob fc : Nat) (val ret : Int32) (cb ce oe org co cr fn fe fp gn ge gd gs : Nat → Int32), oc_MM nc r F par kd bod us ob fc val ret cb ce oe co cr fn fe fp gn ge gd gs → oc_Ph F us fc fn fp ≤ P → ∀ sX, sX + P < 1000000 →
      ∃ (c us' ob' : Nat) (res' fc' val' : Int32) (cb' ce' org' co' cr' fn' fe' fp' : Nat → Int32), us' ≤ 128 ∧ ob' ≤ 32 ∧ (res' = -1 ∨ ∃ o, o < ob' ∧ res' = nI o) ∧
        (∀ post : Int32 → St2 → Prop, post (nI c) (nI NC, nI TC, nI tc, nI nc, fail, res', nI F, nI us', nI ob', fc', val', tm, mk, kd, par, num, ann, rcv, bod, mc, ml, mb, cd, cb', ce', org', co', cr', fn', fe', fp') → wX_evaluate_9 post (P + 2) 0 (nI sX) (nI NC) (nI TC) (nI tc) (nI nc) fail (-1) (nI F) (nI us) (nI ob) (nI fc) val tm mk kd par num ann rcv bod mc ml mb cd cb ce org co cr fn fe fp) := by
  intro P
  induction P with
  | zero =>
    intro us ob fc val ret cb ce oe org co cr fn fe fp gn ge gd gs M hP sX h1
    obtain ⟨m1, m2, m3, mO, mF, mV⟩ := M
    have f0 : fc = 0 := by
      cases fc with
      | zero => rfl
      | succ q =>
        have := oc_Ph_pop (F := F) (us := us) (q := q) (fn := fn) (fp := fp)
        omega
    subst f0
    obtain ⟨o, o1, rfl, rfl⟩ : ∃ o, o < ob ∧ val = nI o ∧ ret = nI o := by
      rcases mV with ⟨q', e1, e2⟩ | y
      · omega
      · exact y
    exact ⟨0, us, ob, nI o, nI 0, nI o, cb, ce, org, co, cr, fn, fe, fp, by omega, m2, Or.inr ⟨o, o1, rfl⟩, fun post h => oc_xe0 (by omega) h⟩
  | succ P ih =>
    intro us ob fc val ret cb ce oe org co cr fn fe fp gn ge gd gs M hP sX h1
    cases fc with
    | zero =>
      obtain ⟨m1, m2, m3, mO, mF, mV⟩ := M
      obtain ⟨o, o1, rfl, rfl⟩ : ∃ o, o < ob ∧ val = nI o ∧ ret = nI o := by
        rcases mV with ⟨q', e1, e2⟩ | y
        · omega
        · exact y
      exact ⟨0, us, ob, nI o, nI 0, nI o, cb, ce, org, co, cr, fn, fe, fp, by omega, m2, Or.inr ⟨o, o1, rfl⟩, fun post h => oc_xe0 (by omega) h⟩
    | succ q =>
      have m2 := M.2.1
      have m3 := M.2.2.1
      rcases oc_xstep (NC := NC) (TC := TC) (fail := fail) (res := -1) (tm := tm) (mk := mk) (cd := cd) (org := org) hc htc hF hr N C M with ⟨us', ob', fc', val', ret', cb', ce', oe', org', co', cr', fn', fe', fp', gn', ge', gd', gs', M', hP', hX⟩ | ⟨c, us', co', cr', fp', c1, c2, c3, hX⟩
      · obtain ⟨c, us2, ob2, res2, fc2, val2, cb2, ce2, org2, co2, cr2, fn2, fe2, fp2, i1, i2, i3, iX⟩ := ih us' ob' fc' val' ret' cb' ce' oe' org' co' cr' fn' fe' fp' gn' ge' gd' gs' M' (by omega) (sX + 1) (by omega)
        exact ⟨c, us2, ob2, res2, fc2, val2, cb2, ce2, org2, co2, cr2, fn2, fe2, fp2, i1, i2, i3, fun post h => oc_xev (by omega) (by omega) (hX _ (iX post h))⟩
      · exact ⟨c, us', ob, -1, nI (q + 1), val, cb, ce, org, co', cr', fn, fe, fp', by omega, m2, Or.inl rfl, fun post h => oc_xev (by omega) (by omega) (hX _ (oc_xee c1 c2 h))⟩
theorem oc_tlock {NC TC tc nc : Nat} {fail : Int32} {tm mk kd par num ann rcv bod mc ml mb cd rt rn : Nat → Int32} {r F t : Nat} (hc : nc ≤ 32) (htc : tc ≤ 32) (hF : F ≤ 128) (hr : r < nc) (N : oc_Nd nc tc kd par num ann rcv bod mc ml mb) (Y : oc_Ty tc tm mk) (D : oc_Ld nc kd mc ml) (T : oc_Tab tc tm kd par num ann rcv bod mc ml mb r rt rn (r + 1)) (hA : ∀ n, n < nc → oc_li par r n = true → ¬ rt n < 0) (ht : t < tc) (et : rt r = nI t) :
    ∀ (P us ob fc : Nat) (val : Int32) (cb ce org co cr fn fe fp : Nat → Int32) (ty : Nat → Nat), oc_TM tc nc r F tm par kd bod ann rcv rt us ob fc val cb ce co cr fn fe fp ty → oc_Ph F us fc fn fp ≤ P → ∀ sX, sX + P < 1000000 →
      ∃ (c us' ob' : Nat) (res' fc' val' : Int32) (cb' ce' org' co' cr' fn' fe' fp' : Nat → Int32), us' ≤ 128 ∧ ob' ≤ 32 ∧ ((c = 0 ∧ ∃ o, o < ob' ∧ res' = nI o ∧ (¬ t = 0 → ∀ l, l < 16 → ¬ tm (t * 16 + l) = -1 → ∃ b, b < 32 ∧ cb' (o * 16 + l) = nI b)) ∨ ((c = 3 ∨ c = 4 ∨ c = 5) ∧ res' = -1)) ∧
        (∀ post : Int32 → St2 → Prop, post (nI c) (nI NC, nI TC, nI tc, nI nc, fail, res', nI F, nI us', nI ob', fc', val', tm, mk, kd, par, num, ann, rcv, bod, mc, ml, mb, cd, cb', ce', org', co', cr', fn', fe', fp') → wX_evaluate_9 post (P + 2) 0 (nI sX) (nI NC) (nI TC) (nI tc) (nI nc) fail (-1) (nI F) (nI us) (nI ob) (nI fc) val tm mk kd par num ann rcv bod mc ml mb cd cb ce org co cr fn fe fp) := by
  have fin : ∀ (P us ob : Nat) (val : Int32) (cb ce org co cr fn fe fp : Nat → Int32) (ty : Nat → Nat), oc_TM tc nc r F tm par kd bod ann rcv rt us ob 0 val cb ce co cr fn fe fp ty → ∀ sX, sX < 1000000 →
      ∃ (c us' ob' : Nat) (res' fc' val' : Int32) (cb' ce' org' co' cr' fn' fe' fp' : Nat → Int32), us' ≤ 128 ∧ ob' ≤ 32 ∧ ((c = 0 ∧ ∃ o, o < ob' ∧ res' = nI o ∧ (¬ t = 0 → ∀ l, l < 16 → ¬ tm (t * 16 + l) = -1 → ∃ b, b < 32 ∧ cb' (o * 16 + l) = nI b)) ∨ ((c = 3 ∨ c = 4 ∨ c = 5) ∧ res' = -1)) ∧
        (∀ post : Int32 → St2 → Prop, post (nI c) (nI NC, nI TC, nI tc, nI nc, fail, res', nI F, nI us', nI ob', fc', val', tm, mk, kd, par, num, ann, rcv, bod, mc, ml, mb, cd, cb', ce', org', co', cr', fn', fe', fp') → wX_evaluate_9 post (P + 2) 0 (nI sX) (nI NC) (nI TC) (nI tc) (nI nc) fail (-1) (nI F) (nI us) (nI ob) (nI 0) val tm mk kd par num ann rcv bod mc ml mb cd cb ce org co cr fn fe fp) := by
    intro P us ob val cb ce org co cr fn fe fp ty M sX h1
    obtain ⟨m1, m2, m3, mO, mF, mV⟩ := M
    obtain ⟨o, o1, rfl, o3⟩ : ∃ o, o < ob ∧ val = nI o ∧ oc_sub tm (ty o) t := by
      rcases mV with ⟨q', e1, e2⟩ | ⟨o, o1, o2, o3⟩
      · omega
      · refine ⟨o, o1, o2, ?_⟩
        rw [oc_ex_0, et, nI_clamp (by omega)] at o3
        exact o3
    refine ⟨0, us, ob, nI o, nI 0, nI o, cb, ce, org, co, cr, fn, fe, fp, by omega, m2, Or.inl ⟨rfl, o, o1, rfl, fun t0 l hl hm => ?_⟩, fun post h => oc_xe0 (by omega) h⟩
    have e := oc_sub_me o3 t0 hl hm
    rcases (Y.2 t ht).2 l hl with y | ⟨m', y1, y2⟩
    · exact absurd y hm
    rw [y2] at e
    obtain ⟨b, p, u, x1, x2, x3, x4, x5, x6, -⟩ := (mO o o1).2.2 l hl m' y1 e
    exact ⟨b, by omega, x6⟩
  intro P
  induction P with
  | zero =>
    intro us ob fc val cb ce org co cr fn fe fp ty M hP sX h1
    have f0 : fc = 0 := by
      cases fc with
      | zero => rfl
      | succ q =>
        have := oc_Ph_pop (F := F) (us := us) (q := q) (fn := fn) (fp := fp)
        omega
    subst f0
    exact fin 0 us ob val cb ce org co cr fn fe fp ty M sX (by omega)
  | succ P ih =>
    intro us ob fc val cb ce org co cr fn fe fp ty M hP sX h1
    cases fc with
    | zero => exact fin (P + 1) us ob val cb ce org co cr fn fe fp ty M sX (by omega)
    | succ q =>
      have m2 := M.2.1
      have m3 := M.2.2.1
      rcases oc_tstep (NC := NC) (TC := TC) (fail := fail) (res := -1) (cd := cd) (org := org) hc htc hF hr N Y D T hA M with ⟨us', ob', fc', val', cb', ce', org', co', cr', fn', fe', fp', ty', M', hP', hX⟩ | ⟨c, us', co', cr', fp', c1, c3, hX⟩
      · obtain ⟨c, us2, ob2, res2, fc2, val2, cb2, ce2, org2, co2, cr2, fn2, fe2, fp2, i1, i2, i3, iX⟩ := ih us' ob' fc' val' cb' ce' org' co' cr' fn' fe' fp' ty' M' (by omega) (sX + 1) (by omega)
        exact ⟨c, us2, ob2, res2, fc2, val2, cb2, ce2, org2, co2, cr2, fn2, fe2, fp2, i1, i2, i3, fun post h => oc_xev (by omega) (by omega) (hX _ (iX post h))⟩
      · exact ⟨c, us', ob, -1, nI (q + 1), val, cb, ce, org, co', cr', fn, fe, fp', by omega, m2, Or.inr ⟨c1, rfl⟩, fun post h => oc_xev (by omega) (by omega) (hX _ (oc_xee (by omega) (by omega) h))⟩
theorem oc_cl0 (p : Int32) : ∃ F : Nat, F ≤ 128 ∧ ∀ G : Int32 → Prop, G (nI F) → (0 ≤ p → ((p ≤ 128 → G p) ∧ (¬ p ≤ 128 → G 128))) ∧ (¬ 0 ≤ p → G 0) := by
  by_cases a : 0 ≤ p
  · by_cases b : p ≤ 128
    · obtain ⟨c, hc, rfl⟩ := nI_of2 (M := 128) (n := 128) (by decide) (Int32.not_lt.mpr a) b
      exact ⟨c, hc, fun G h => br_t a (br_t b h)⟩
    · exact ⟨128, by omega, fun G h => br_t a (br_f b h)⟩
  · exact ⟨0, by omega, fun G h => br_f a h⟩
theorem oc_ph0 {F r : Nat} {fn fp : Nat → Int32} (hF : F ≤ 128) (hr : r < 32) : oc_Ph F 0 1 (upd fn 0 (nI r)) (upd fp 0 0) ≤ 12384 := by
  unfold oc_Ph
  rw [oc_sm, oc_sm]
  unfold oc_wt
  rw [pk_us, pk_us, if_pos rfl, nI_clamp (by omega)]
  omega
def oc_RU (T rr : Int32) (u : St2) : Prop := T < 0 ∨ ∃ (NC TC tc nc us ob : Nat) (fail res fl fc val : Int32) (tm mk kd par num ann rcv bod mc ml mb cd cb ce org co cr fn fe fp : Nat → Int32) (t : Nat), u = (nI NC, nI TC, nI tc, nI nc, fail, res, fl, nI us, nI ob, fc, val, tm, mk, kd, par, num, ann, rcv, bod, mc, ml, mb, cd, cb, ce, org, co, cr, fn, fe, fp) ∧ oc_I NC TC tc nc us ob res tm mk kd par num ann rcv bod mc ml mb ∧ t < tc ∧ T = nI t ∧
  ((rr = 0 ∧ ∃ o, o < ob ∧ res = nI o ∧ (¬ t = 0 → ∀ l, l < 16 → ¬ tm (t * 16 + l) = -1 → ∃ b, b < 32 ∧ cb (o * 16 + l) = nI b)) ∨ (rr = 3 ∨ rr = 4 ∨ rr = 5))
theorem oc_jr {u : St2} {post : Int32 → St2 → Prop} {v1 T : Int32} (I : oc_J u) (K : oc_CK v1 T u) (h : ∀ r u', oc_J u' → oc_RU T r u' → post r u') (v2 : Int32) : wpX_run post u v1 v2 := by
  obtain ⟨F, hF, hG⟩ := oc_cl0 v2
  have cX : ∀ post : Int32 → Prop, post (nI F) → wpX_clamp post () v2 0 128 := fun post h => hG post h
  rcases K with K | ⟨NC, TC, tc, nc, us, ob, fail, res, fl, fc, val, tm, mk, kd, par, num, ann, rcv, bod, mc, ml, mb, cd, cb, ce, org, co, cr, fn, fe, fp, r, t, rt, rn, rfl, hI, hr', rfl, hTb, ht, et, rfl⟩
  · obtain ⟨NC, TC, tc, nc, us, ob, fail, res, fl, fc, val, tm, mk, kd, par, num, ann, rcv, bod, mc, ml, mb, cd, cb, ce, org, co, cr, fn, fe, fp, rfl, hI⟩ := I
    have H := hI
    obtain ⟨h1, h2, h3, h4, h5, h6, h7, hN, hT, hm, hK, hL, hr⟩ := hI
    unfold wpX_run
    rcases oc_ix v1 (n := nc) (by omega) with a | ⟨r, hr', rfl⟩
    · exact oc_xN0 a (h _ _ (oc_jm H) (Or.inl K))
    refine oc_xN1 hr' (by omega) (oc_xcl (by omega) hr' hN (fun C => br_f oc_10 ?_) (fun C => br_t rfl (h _ _ (oc_jm H) (Or.inl K))))
    have M : oc_MM nc r F par kd bod 0 0 1 val (-1) cb ce ce co cr (upd fn 0 (nI r)) (upd fe 0 (-1)) (upd fp 0 0) (upd fn 0 (nI r)) (upd fe 0 (-1)) (upd fn 0 1) (upd fp 0 0) := by
      refine ⟨by omega, by omega, by omega, fun o l ho => absurd ho (Nat.not_lt_zero _), fun j hj => ?_, Or.inl ⟨0, rfl, pk_us⟩⟩
      have j0 : j = 0 := by omega
      subst j0
      refine ⟨r, hr', oc_li_r _ _, pk_us, pk_us, ?_, rfl, pk_us, rfl, Or.inl ⟨pk_us, rfl⟩⟩
      rw [oc_dp_r]
      trivial
    obtain ⟨c, us2, ob2, res2, fc2, val2, cb2, ce2, org2, co2, cr2, fn2, fe2, fp2, i1, i2, i3, iX⟩ := oc_xlock (NC := NC) (TC := TC) (fail := fail) (tm := tm) (mk := mk) (cd := cd) (show nc ≤ 32 by omega) (show tc ≤ 32 by omega) hF hr' hN C 12384 0 0 1 val (-1) cb ce ce org co cr _ _ _ _ _ _ _ M (oc_ph0 hF (by omega)) 0 (by omega)
    refine cX _ ?_
    unfold wpX_evaluate
    refine oc_xen1 (q := 0) (by omega) ⟨12386, iX _ ?_⟩
    exact h _ _ (oc_jm ⟨h1, h2, h3, h4, h5, i1, i2, hN, hT, hm, hK, hL, i3⟩) (Or.inl K)
  · obtain ⟨h1, h2, h3, h4, h5, h6, h7, hN, hT, hm, hK, hL, hr⟩ := hI
    have nn : ¬ rt r < 0 := by rw [et]; exact nI_pos (by omega)
    have hA := oc_tA (show nc ≤ 32 by omega) (show tc ≤ 32 by omega) hr' hN hT hK hTb nn
    have C := oc_tC (show nc ≤ 32 by omega) (show tc ≤ 32 by omega) hr' hN hT hK hTb nn
    unfold wpX_run
    refine oc_xN1 hr' (by omega) (oc_xcl (by omega) hr' hN (fun _ => br_f oc_10 ?_) (fun q => absurd C q))
    have M : oc_TM tc nc r F tm par kd bod ann rcv rt 0 0 1 val cb ce co cr (upd fn 0 (nI r)) (upd fe 0 (-1)) (upd fp 0 0) (fun _ => 0) := by
      refine ⟨by omega, by omega, by omega, fun o ho => absurd ho (Nat.not_lt_zero _), fun j hj => ?_, Or.inl ⟨0, rfl, pk_us⟩⟩
      have j0 : j = 0 := by omega
      subst j0
      exact ⟨r, hr', oc_li_r _ _, pk_us, oc_ET_r, Or.inl rfl, Or.inl ⟨pk_us, rfl⟩⟩
    obtain ⟨c, us2, ob2, res2, fc2, val2, cb2, ce2, org2, co2, cr2, fn2, fe2, fp2, i1, i2, i3, iX⟩ := oc_tlock (NC := NC) (TC := TC) (fail := fail) (cd := cd) (show nc ≤ 32 by omega) (show tc ≤ 32 by omega) hF hr' hN hT hL hTb hA ht et 12384 0 0 1 val cb ce org co cr _ _ _ _ M (oc_ph0 hF (by omega)) 0 (by omega)
    have HI : oc_I NC TC tc nc us2 ob2 res2 tm mk kd par num ann rcv bod mc ml mb := by
      refine ⟨h1, h2, h3, h4, h5, i1, i2, hN, hT, hm, hK, hL, ?_⟩
      rcases i3 with ⟨-, o, o1, o2, -⟩ | ⟨-, e⟩
      · exact Or.inr ⟨o, o1, o2⟩
      · exact Or.inl e
    refine cX _ ?_
    unfold wpX_evaluate
    refine oc_xen1 (q := 0) (by omega) ⟨12386, iX _ ?_⟩
    refine h _ _ (oc_jm HI) (Or.inr ⟨NC, TC, tc, nc, us2, ob2, fail, res2, nI F, fc2, val2, tm, mk, kd, par, num, ann, rcv, bod, mc, ml, mb, cd, cb2, ce2, org2, co2, cr2, fn2, fe2, fp2, t, rfl, HI, ht, rfl, ?_⟩)
    rcases i3 with ⟨e, g⟩ | ⟨e, -⟩
    · exact Or.inl ⟨by rw [e, nI_0], g⟩
    · refine Or.inr ?_
      rcases e with e | e | e
      · exact Or.inl (by rw [e]; rfl)
      · exact Or.inr (Or.inl (by rw [e]; rfl))
      · exact Or.inr (Or.inr (by rw [e]; rfl))
end
section
/-! the law, from its innermost loops outward -/
theorem oc_rc {post : Int32 → Prop} {p0 p1 p2 : Int32} (h2 : ¬ p2 = 0) (h : ∀ r, post r) : wpL_recent post () p0 p1 p2 :=
  br_c (fun _ => ⟨h2, nm_e (br_c (fun _ => h _) (fun _ => h _))⟩) (fun _ => h _)
theorem oc_nz {post : Int32 → Prop} {p : Int32} (h : ∀ r, post r) : wpL_nz post () p := br_c (fun _ => h _) (fun _ => h _)
theorem oc_ce {post : Int32 → Prop} {L k : Nat} {xs : Nat → Int32} (hL : L ≤ 260) (hk : k < 2 ^ 20) (h : ∀ r, post r) : wpL_cell post L xs () (nI k) :=
  pk_le L k (fun _ => h _) (fun q => ⟨vp_in_nI q (by omega), h _⟩)
theorem oc_742 {NC TC tc nc us ob : Nat} {fail fl fc val : Int32} {tm mk kd par num ann rcv bod mc ml mb cd cb ce org co cr fn fe fp : Nat → Int32} {post : Int32 → Prop} {L : Nat} {xs : Nat → Int32} {J27 : Int32 → Int32 → Int32 → Int32 → Int32 → Int32 → Int32 → Int32 → Int32 → Int32 → Int32 → Int32 → Int32 → Int32 → (Nat → Int32) → (Nat → Int32) → (Nat → Int32) → (Nat → Int32) → (Nat → Int32) → (Nat → Int32) → (Nat → Int32) → (Nat → Int32) → (Nat → Int32) → (Nat → Int32) → (Nat → Int32) → (Nat → Int32) → (Nat → Int32) → (Nat → Int32) → (Nat → Int32) → (Nat → Int32) → (Nat → Int32) → (Nat → Int32) → (Nat → Int32) → (Nat → Int32) → Prop} {x2 x3 x4 x5 : Int32} {kc ks t o : Nat} (hI : oc_I NC TC tc nc us ob (nI o) tm mk kd par num ann rcv bod mc ml mb)
    (ht : t < tc) (ho : o < ob) (hb : ∀ l, l < 16 → ¬ tm (t * 16 + l) = -1 → ∃ b, b < 32 ∧ cb (o * 16 + l) = nI b) (h : J27 x2 x3 (x5 + 1) (nI NC) (nI TC) (nI tc) (nI nc) fail (nI o) fl (nI us) (nI ob) fc val tm mk kd par num ann rcv bod mc ml mb cd cb ce org co cr fn fe fp) :
    ∀ d l, l + d = 16 → wL_law_742 post L xs J27 x2 x3 x4 x5 (nI t) kc ks (nI NC) (nI TC) (nI tc) (nI nc) fail (nI o) fl (nI us) (nI ob) fc val tm mk kd par num ann rcv bod mc ml mb cd cb ce org co cr fn fe fp (d + 1) (nI l) := by
  obtain ⟨h1, h2, h3, h4, h5, h6, h7, hN, hT, -⟩ := hI
  intro d
  induction d with
  | zero =>
    intro l hl
    exact br_t (nI_le (a := 16) (by omega) (by omega)) (nm_e h)
  | succ d ih =>
    intro l hl
    have hl16 : l < 16 := by omega
    refine br_f (nI_ge (b := 16) (by omega) (by omega)) ?_
    unfold wpX_typeMember
    refine oc_xT1 ht (by omega) (oc_xL1 hl16 ⟨oc_v16 (by omega) hl16, ?_⟩)
    rw [oc_k16 (by omega) hl16]
    rcases (hT.2 t ht).2 l hl16 with y | ⟨m', y1, y2⟩
    · rw [y]
      exact br_t (by decide) (nm_r (nI_1 l) (ih (l + 1) (by omega)))
    · obtain ⟨b, b1, b2⟩ := hb l hl16 (by rw [y2]; exact oc_m1 (by omega))
      rw [y2]
      refine br_f (nI_pos (by omega)) ?_
      unfold wpX_resultBody
      refine br_f (oc_m1 (by omega)) (oc_xL1 hl16 ⟨oc_v16 (by omega) hl16, ?_⟩)
      rw [oc_k16 (by omega) hl16, b2]
      exact br_t (nI_pos' (by omega)) (nm_r (nI_1 l) (ih (l + 1) (by omega)))
theorem oc_676 {NC TC tc nc us ob : Nat} {fail res fl fc val : Int32} {tm mk kd par num ann rcv bod mc ml mb cd cb ce org co cr fn fe fp : Nat → Int32} {post : Int32 → Prop} {L : Nat} {xs : Nat → Int32} {J27 : Int32 → Int32 → Int32 → Int32 → Int32 → Int32 → Int32 → Int32 → Int32 → Int32 → Int32 → Int32 → Int32 → Int32 → (Nat → Int32) → (Nat → Int32) → (Nat → Int32) → (Nat → Int32) → (Nat → Int32) → (Nat → Int32) → (Nat → Int32) → (Nat → Int32) → (Nat → Int32) → (Nat → Int32) → (Nat → Int32) → (Nat → Int32) → (Nat → Int32) → (Nat → Int32) → (Nat → Int32) → (Nat → Int32) → (Nat → Int32) → (Nat → Int32) → (Nat → Int32) → (Nat → Int32) → Prop} {x2 x3 x4 x5 x11 x12 : Int32} {kc ks : Nat} (hI : oc_I NC TC tc nc us ob res tm mk kd par num ann rcv bod mc ml mb)
    (HJ : ∀ (x2 x3 : Int32) {NC TC tc nc us ob : Nat} {fail res fl fc val : Int32} {tm mk kd par num ann rcv bod mc ml mb cd cb ce org co cr fn fe fp : Nat → Int32}, oc_I NC TC tc nc us ob res tm mk kd par num ann rcv bod mc ml mb → J27 x2 x3 (x5 + 1) (nI NC) (nI TC) (nI tc) (nI nc) fail res fl (nI us) (nI ob) fc val tm mk kd par num ann rcv bod mc ml mb cd cb ce org co cr fn fe fp) : wL_law_676 post L xs J27 x2 x3 x4 x5 x11 x12 kc ks (nI NC) (nI TC) (nI tc) (nI nc) fail res fl (nI us) (nI ob) fc val tm mk kd par num ann rcv bod mc ml mb cd cb ce org co cr fn fe fp := by
  unfold wL_law_676
  refine br_c (fun _ => nm_e (HJ _ _ hI)) (fun _ => oc_jc (oc_jm hI) (fun T u' J' K => ?_))
  obtain ⟨NC, TC, tc, nc, us, ob, fail, res, fl, fc, val, tm, mk, kd, par, num, ann, rcv, bod, mc, ml, mb, cd, cb, ce, org, co, cr, fn, fe, fp, rfl, hI'⟩ := J'
  refine oc_jr (oc_jm hI') K (fun rr u'' J'' R => ?_) x12
  rcases R with hT | ⟨NC, TC, tc, nc, us, ob, fail, res, fl, fc, val, tm, mk, kd, par, num, ann, rcv, bod, mc, ml, mb, cd, cb, ce, org, co, cr, fn, fe, fp, t, rfl, hI'', ht, rfl, R⟩
  · obtain ⟨NC, TC, tc, nc, us, ob, fail, res, fl, fc, val, tm, mk, kd, par, num, ann, rcv, bod, mc, ml, mb, cd, cb, ce, org, co, cr, fn, fe, fp, rfl, hI''⟩ := J''
    exact br_t hT (nm_e (HJ _ _ hI''))
  · have t32 : t < 32 := by have := hI''.2.1; have := hI''.2.2.2.1; omega
    refine br_f (nI_pos (by omega)) ?_
    rcases R with ⟨rfl, o, o1, rfl, o3⟩ | rfl | rfl | rfl
    · refine br_t rfl (br_t rfl (pk_eq t 0 (fun _ => nm_e (HJ _ _ hI'')) (fun t0 => ⟨17, ?_⟩)))
      exact oc_742 hI'' ht o1 (o3 t0) (HJ _ _ hI'') 16 0 rfl
    · exact br_f (by decide) (br_t rfl (br_f (by decide) (nm_e (HJ _ _ hI''))))
    · exact br_f (by decide) (br_f (by decide) (br_t rfl (br_f (by decide) (nm_e (HJ _ _ hI'')))))
    · exact br_f (by decide) (br_f (by decide) (br_f (by decide) (br_t rfl (br_f (by decide) (nm_e (HJ _ _ hI''))))))
theorem oc_623 {NC TC tc nc us ob : Nat} {fail res fl fc val : Int32} {tm mk kd par num ann rcv bod mc ml mb cd cb ce org co cr fn fe fp : Nat → Int32} {post : Int32 → Prop} {L : Nat} {xs : Nat → Int32} {J27 : Int32 → Int32 → Int32 → Int32 → Int32 → Int32 → Int32 → Int32 → Int32 → Int32 → Int32 → Int32 → Int32 → Int32 → (Nat → Int32) → (Nat → Int32) → (Nat → Int32) → (Nat → Int32) → (Nat → Int32) → (Nat → Int32) → (Nat → Int32) → (Nat → Int32) → (Nat → Int32) → (Nat → Int32) → (Nat → Int32) → (Nat → Int32) → (Nat → Int32) → (Nat → Int32) → (Nat → Int32) → (Nat → Int32) → (Nat → Int32) → (Nat → Int32) → (Nat → Int32) → (Nat → Int32) → Prop} {x2 x3 x4 x5 x8 x10 : Int32} {kc ks : Nat} (hI : oc_I NC TC tc nc us ob res tm mk kd par num ann rcv bod mc ml mb)
    (HJ : ∀ (x2 x3 : Int32) {NC TC tc nc us ob : Nat} {fail res fl fc val : Int32} {tm mk kd par num ann rcv bod mc ml mb cd cb ce org co cr fn fe fp : Nat → Int32}, oc_I NC TC tc nc us ob res tm mk kd par num ann rcv bod mc ml mb → J27 x2 x3 (x5 + 1) (nI NC) (nI TC) (nI tc) (nI nc) fail res fl (nI us) (nI ob) fc val tm mk kd par num ann rcv bod mc ml mb cd cb ce org co cr fn fe fp) : wL_law_623 post L xs J27 x2 x3 x4 x5 x8 x10 kc ks (nI NC) (nI TC) (nI tc) (nI nc) fail res fl (nI us) (nI ob) fc val tm mk kd par num ann rcv bod mc ml mb cd cb ce org co cr fn fe fp := by
  unfold wL_law_623
  refine ⟨by decide, oc_rc (by decide) (fun r => ⟨by decide, by decide, br_c (fun _ => ?_) (fun _ => ⟨by decide, by decide, ?_⟩)⟩)⟩
  · exact oc_676 hI HJ
  · exact oc_676 hI HJ
theorem oc_414 {NC TC tc nc us ob : Nat} {fail res fl fc val : Int32} {tm mk kd par num ann rcv bod mc ml mb cd cb ce org co cr fn fe fp : Nat → Int32} {post : Int32 → Prop} {L : Nat} {xs : Nat → Int32} {J27 : Int32 → Int32 → Int32 → Int32 → Int32 → Int32 → Int32 → Int32 → Int32 → Int32 → Int32 → Int32 → Int32 → Int32 → (Nat → Int32) → (Nat → Int32) → (Nat → Int32) → (Nat → Int32) → (Nat → Int32) → (Nat → Int32) → (Nat → Int32) → (Nat → Int32) → (Nat → Int32) → (Nat → Int32) → (Nat → Int32) → (Nat → Int32) → (Nat → Int32) → (Nat → Int32) → (Nat → Int32) → (Nat → Int32) → (Nat → Int32) → (Nat → Int32) → (Nat → Int32) → (Nat → Int32) → Prop} {J270 : Int32 → Int32 → Int32 → Int32 → Int32 → Int32 → Int32 → Int32 → Int32 → Int32 → Int32 → Int32 → (Nat → Int32) → (Nat → Int32) → (Nat → Int32) → (Nat → Int32) → (Nat → Int32) → (Nat → Int32) → (Nat → Int32) → (Nat → Int32) → (Nat → Int32) → (Nat → Int32) → (Nat → Int32) → (Nat → Int32) → (Nat → Int32) → (Nat → Int32) → (Nat → Int32) → (Nat → Int32) → (Nat → Int32) → (Nat → Int32) → (Nat → Int32) → (Nat → Int32) → Prop} {x2 x3 x4 x5 x8 x9 x10 x14 x15 x16 x17 x19 : Int32} {kc ks : Nat} (hI : oc_I NC TC tc nc us ob res tm mk kd par num ann rcv bod mc ml mb)
    (HK : ∀ {NC TC tc nc us ob : Nat} {fail res fl fc val : Int32} {tm mk kd par num ann rcv bod mc ml mb cd cb ce org co cr fn fe fp : Nat → Int32}, oc_I NC TC tc nc us ob res tm mk kd par num ann rcv bod mc ml mb → J270 (x17 + 1) (nI NC) (nI TC) (nI tc) (nI nc) fail res fl (nI us) (nI ob) fc val tm mk kd par num ann rcv bod mc ml mb cd cb ce org co cr fn fe fp) : wL_law_414 post L xs J27 J270 x2 x3 x4 x5 x8 x9 x10 x14 x15 x16 x17 x19 kc ks (nI NC) (nI TC) (nI tc) (nI nc) fail res fl (nI us) (nI ob) fc val tm mk kd par num ann rcv bod mc ml mb cd cb ce org co cr fn fe fp := by
  unfold wL_law_414
  refine br_c (fun _ => nm_e (HK hI)) (fun _ => oc_ja (oc_jm hI) (fun rr u' J' => ?_) _ _ _)
  obtain ⟨NC, TC, tc, nc, us, ob, fail, res, fl, fc, val, tm, mk, kd, par, num, ann, rcv, bod, mc, ml, mb, cd, cb, ce, org, co, cr, fn, fe, fp, rfl, hI'⟩ := J'
  exact nm_e (HK hI')
theorem oc_341 {post : Int32 → Prop} {L : Nat} {xs : Nat → Int32} {J27 : Int32 → Int32 → Int32 → Int32 → Int32 → Int32 → Int32 → Int32 → Int32 → Int32 → Int32 → Int32 → Int32 → Int32 → (Nat → Int32) → (Nat → Int32) → (Nat → Int32) → (Nat → Int32) → (Nat → Int32) → (Nat → Int32) → (Nat → Int32) → (Nat → Int32) → (Nat → Int32) → (Nat → Int32) → (Nat → Int32) → (Nat → Int32) → (Nat → Int32) → (Nat → Int32) → (Nat → Int32) → (Nat → Int32) → (Nat → Int32) → (Nat → Int32) → (Nat → Int32) → (Nat → Int32) → Prop} {J270 : Int32 → Int32 → Int32 → Int32 → Int32 → Int32 → Int32 → Int32 → Int32 → Int32 → Int32 → Int32 → (Nat → Int32) → (Nat → Int32) → (Nat → Int32) → (Nat → Int32) → (Nat → Int32) → (Nat → Int32) → (Nat → Int32) → (Nat → Int32) → (Nat → Int32) → (Nat → Int32) → (Nat → Int32) → (Nat → Int32) → (Nat → Int32) → (Nat → Int32) → (Nat → Int32) → (Nat → Int32) → (Nat → Int32) → (Nat → Int32) → (Nat → Int32) → (Nat → Int32) → Prop} {x2 x3 x4 x5 x8 x9 x10 x14 x15 x16 x17 x18 : Int32} {kc ks : Nat}
    (HK : ∀ {NC TC tc nc us ob : Nat} {fail res fl fc val : Int32} {tm mk kd par num ann rcv bod mc ml mb cd cb ce org co cr fn fe fp : Nat → Int32}, oc_I NC TC tc nc us ob res tm mk kd par num ann rcv bod mc ml mb → J270 (x17 + 1) (nI NC) (nI TC) (nI tc) (nI nc) fail res fl (nI us) (nI ob) fc val tm mk kd par num ann rcv bod mc ml mb cd cb ce org co cr fn fe fp) : ∀ d j, j + d = 9 → ∀ (x19 : Int32) {NC TC tc nc us ob : Nat} {fail res fl fc val : Int32} {tm mk kd par num ann rcv bod mc ml mb cd cb ce org co cr fn fe fp : Nat → Int32}, oc_I NC TC tc nc us ob res tm mk kd par num ann rcv bod mc ml mb →
      wL_law_341 post L xs J27 J270 x2 x3 x4 x5 x8 x9 x10 x14 x15 x16 x17 x18 kc ks (d + 1) x19 (nI j) (nI NC) (nI TC) (nI tc) (nI nc) fail res fl (nI us) (nI ob) fc val tm mk kd par num ann rcv bod mc ml mb cd cb ce org co cr fn fe fp := by
  intro d
  induction d with
  | zero =>
    intro j hj x19 NC TC tc nc us ob fail res fl fc val tm mk kd par num ann rcv bod mc ml mb cd cb ce org co cr fn fe fp hI
    exact br_t (nI_lt (a := 8) (b := j) (by omega) (by omega)) (oc_414 hI HK)
  | succ d ih =>
    intro j hj x19 NC TC tc nc us ob fail res fl fc val tm mk kd par num ann rcv bod mc ml mb cd cb ce org co cr fn fe fp hI
    refine br_f (nI_nlt (b := j) (a := 8) (by omega) (by omega)) (br_c (fun _ => oc_414 hI HK) (fun _ => nm_e (br_c (fun _ => oc_jn (oc_jm hI) (fun rp => br_c (fun _ => oc_jc (oc_jm hI) (fun T u' J' _ => ?_)) (fun _ => nm_r (nI_1 j) (ih (j + 1) (by omega) x19 hI))) _) (fun _ => oc_414 hI HK))))
    obtain ⟨NC, TC, tc, nc, us, ob, fail, res, fl, fc, val, tm, mk, kd, par, num, ann, rcv, bod, mc, ml, mb, cd, cb, ce, org, co, cr, fn, fe, fp, rfl, hI'⟩ := J'
    exact br_c (fun _ => nm_r (nI_1 j) (ih (j + 1) (by omega) x19 hI')) (fun _ => oc_jb (oc_jm hI') (fun rb => br_c (fun _ => nm_r (nI_1 j) (ih (j + 1) (by omega) x19 hI')) (fun _ => nm_r (nI_1 j) (ih (j + 1) (by omega) _ hI'))) _ _)
theorem oc_270 {post : Int32 → Prop} {L : Nat} {xs : Nat → Int32} {J27 : Int32 → Int32 → Int32 → Int32 → Int32 → Int32 → Int32 → Int32 → Int32 → Int32 → Int32 → Int32 → Int32 → Int32 → (Nat → Int32) → (Nat → Int32) → (Nat → Int32) → (Nat → Int32) → (Nat → Int32) → (Nat → Int32) → (Nat → Int32) → (Nat → Int32) → (Nat → Int32) → (Nat → Int32) → (Nat → Int32) → (Nat → Int32) → (Nat → Int32) → (Nat → Int32) → (Nat → Int32) → (Nat → Int32) → (Nat → Int32) → (Nat → Int32) → (Nat → Int32) → (Nat → Int32) → Prop} {x2 x3 x4 x5 x8 x9 x10 x14 x15 x16 : Int32} {kc ks : Nat}
    (HJ : ∀ (x2 x3 : Int32) {NC TC tc nc us ob : Nat} {fail res fl fc val : Int32} {tm mk kd par num ann rcv bod mc ml mb cd cb ce org co cr fn fe fp : Nat → Int32}, oc_I NC TC tc nc us ob res tm mk kd par num ann rcv bod mc ml mb → J27 x2 x3 (x5 + 1) (nI NC) (nI TC) (nI tc) (nI nc) fail res fl (nI us) (nI ob) fc val tm mk kd par num ann rcv bod mc ml mb cd cb ce org co cr fn fe fp) : ∀ d l, l + d = 16 → ∀ {NC TC tc nc us ob : Nat} {fail res fl fc val : Int32} {tm mk kd par num ann rcv bod mc ml mb cd cb ce org co cr fn fe fp : Nat → Int32}, oc_I NC TC tc nc us ob res tm mk kd par num ann rcv bod mc ml mb →
      wL_law_270 post L xs J27 x2 x3 x4 x5 x8 x9 x10 x14 x15 x16 kc ks (d + 1) (nI l) (nI NC) (nI TC) (nI tc) (nI nc) fail res fl (nI us) (nI ob) fc val tm mk kd par num ann rcv bod mc ml mb cd cb ce org co cr fn fe fp := by
  intro d
  induction d with
  | zero =>
    intro l hl NC TC tc nc us ob fail res fl fc val tm mk kd par num ann rcv bod mc ml mb cd cb ce org co cr fn fe fp hI
    exact br_t (nI_le (a := 16) (by omega) (by omega)) (oc_623 hI HJ)
  | succ d ih =>
    intro l hl NC TC tc nc us ob fail res fl fc val tm mk kd par num ann rcv bod mc ml mb cd cb ce org co cr fn fe fp hI
    have HK : ∀ {NC TC tc nc us ob : Nat} {fail res fl fc val : Int32} {tm mk kd par num ann rcv bod mc ml mb cd cb ce org co cr fn fe fp : Nat → Int32}, oc_I NC TC tc nc us ob res tm mk kd par num ann rcv bod mc ml mb → wL_law_270 post L xs J27 x2 x3 x4 x5 x8 x9 x10 x14 x15 x16 kc ks (d + 1) (nI l + 1) (nI NC) (nI TC) (nI tc) (nI nc) fail res fl (nI us) (nI ob) fc val tm mk kd par num ann rcv bod mc ml mb cd cb ce org co cr fn fe fp := fun hI' => by
      rw [nI_1]; exact ih (l + 1) (by omega) hI'
    refine br_f (nI_ge (b := 16) (by omega) (by omega)) (oc_jt (oc_jm hI) (fun r => br_c (fun _ => br_c (fun _ => ⟨9, oc_341 HK 8 1 (by omega) _ hI⟩) (fun _ => br_c (fun _ => oc_jn (oc_jm hI) (fun rp => br_c (fun _ => ⟨9, oc_341 HK 8 1 (by omega) _ hI⟩) (fun _ => oc_jb (oc_jm hI) (fun rb => br_c (fun _ => ⟨9, oc_341 HK 8 1 (by omega) _ hI⟩) (fun _ => ⟨9, oc_341 HK 8 1 (by omega) _ hI⟩)) _ _)) _) (fun _ => ⟨9, oc_341 HK 8 1 (by omega) _ hI⟩))) (fun _ => nm_r (nI_1 l) (ih (l + 1) (by omega) hI))) _ _)
theorem oc_249 {NC TC tc nc us ob : Nat} {fail res fl fc val : Int32} {tm mk kd par num ann rcv bod mc ml mb cd cb ce org co cr fn fe fp : Nat → Int32} {post : Int32 → Prop} {L : Nat} {xs : Nat → Int32} {J27 : Int32 → Int32 → Int32 → Int32 → Int32 → Int32 → Int32 → Int32 → Int32 → Int32 → Int32 → Int32 → Int32 → Int32 → (Nat → Int32) → (Nat → Int32) → (Nat → Int32) → (Nat → Int32) → (Nat → Int32) → (Nat → Int32) → (Nat → Int32) → (Nat → Int32) → (Nat → Int32) → (Nat → Int32) → (Nat → Int32) → (Nat → Int32) → (Nat → Int32) → (Nat → Int32) → (Nat → Int32) → (Nat → Int32) → (Nat → Int32) → (Nat → Int32) → (Nat → Int32) → (Nat → Int32) → Prop} {x2 x3 x4 x5 x8 x9 x10 x14 x15 : Int32} {kc ks : Nat} (hI : oc_I NC TC tc nc us ob res tm mk kd par num ann rcv bod mc ml mb)
    (HJ : ∀ (x2 x3 : Int32) {NC TC tc nc us ob : Nat} {fail res fl fc val : Int32} {tm mk kd par num ann rcv bod mc ml mb cd cb ce org co cr fn fe fp : Nat → Int32}, oc_I NC TC tc nc us ob res tm mk kd par num ann rcv bod mc ml mb → J27 x2 x3 (x5 + 1) (nI NC) (nI TC) (nI tc) (nI nc) fail res fl (nI us) (nI ob) fc val tm mk kd par num ann rcv bod mc ml mb cd cb ce org co cr fn fe fp) : wL_law_249 post L xs J27 x2 x3 x4 x5 x8 x9 x10 x14 x15 kc ks (nI NC) (nI TC) (nI tc) (nI nc) fail res fl (nI us) (nI ob) fc val tm mk kd par num ann rcv bod mc ml mb cd cb ce org co cr fn fe fp := by
  unfold wL_law_249
  refine oc_jo (oc_jm hI) (fun rr u' J' => ?_) _
  obtain ⟨NC, TC, tc, nc, us, ob, fail, res, fl, fc, val, tm, mk, kd, par, num, ann, rcv, bod, mc, ml, mb, cd, cb, ce, org, co, cr, fn, fe, fp, rfl, hI'⟩ := J'
  exact br_c (fun _ => oc_623 hI' HJ) (fun _ => nm_e ⟨17, oc_270 HJ 16 0 rfl hI'⟩)
theorem oc_223 {NC TC tc nc us ob : Nat} {fail res fl fc val : Int32} {tm mk kd par num ann rcv bod mc ml mb cd cb ce org co cr fn fe fp : Nat → Int32} {post : Int32 → Prop} {L : Nat} {xs : Nat → Int32} {J27 : Int32 → Int32 → Int32 → Int32 → Int32 → Int32 → Int32 → Int32 → Int32 → Int32 → Int32 → Int32 → Int32 → Int32 → (Nat → Int32) → (Nat → Int32) → (Nat → Int32) → (Nat → Int32) → (Nat → Int32) → (Nat → Int32) → (Nat → Int32) → (Nat → Int32) → (Nat → Int32) → (Nat → Int32) → (Nat → Int32) → (Nat → Int32) → (Nat → Int32) → (Nat → Int32) → (Nat → Int32) → (Nat → Int32) → (Nat → Int32) → (Nat → Int32) → (Nat → Int32) → (Nat → Int32) → Prop} {x2 x3 x4 x5 x8 x9 x10 : Int32} {kc ks : Nat} (hI : oc_I NC TC tc nc us ob res tm mk kd par num ann rcv bod mc ml mb)
    (HJ : ∀ (x2 x3 : Int32) {NC TC tc nc us ob : Nat} {fail res fl fc val : Int32} {tm mk kd par num ann rcv bod mc ml mb cd cb ce org co cr fn fe fp : Nat → Int32}, oc_I NC TC tc nc us ob res tm mk kd par num ann rcv bod mc ml mb → J27 x2 x3 (x5 + 1) (nI NC) (nI TC) (nI tc) (nI nc) fail res fl (nI us) (nI ob) fc val tm mk kd par num ann rcv bod mc ml mb cd cb ce org co cr fn fe fp) : wL_law_223 post L xs J27 x2 x3 x4 x5 x8 x9 x10 kc ks (nI NC) (nI TC) (nI tc) (nI nc) fail res fl (nI us) (nI ob) fc val tm mk kd par num ann rcv bod mc ml mb cd cb ce org co cr fn fe fp := by
  unfold wL_law_223
  refine oc_rc (by decide) (fun r => oc_jv (oc_jm hI) (fun rr u' J' => ?_) _)
  obtain ⟨NC, TC, tc, nc, us, ob, fail, res, fl, fc, val, tm, mk, kd, par, num, ann, rcv, bod, mc, ml, mb, cd, cb, ce, org, co, cr, fn, fe, fp, rfl, hI'⟩ := J'
  exact br_c (fun _ => oc_249 hI' HJ) (fun _ => nm_e (oc_249 hI' HJ))
theorem oc_597 {NC TC tc nc us ob : Nat} {fail res fl fc val : Int32} {tm mk kd par num ann rcv bod mc ml mb cd cb ce org co cr fn fe fp : Nat → Int32} {post : Int32 → Prop} {L : Nat} {xs : Nat → Int32} {J27 : Int32 → Int32 → Int32 → Int32 → Int32 → Int32 → Int32 → Int32 → Int32 → Int32 → Int32 → Int32 → Int32 → Int32 → (Nat → Int32) → (Nat → Int32) → (Nat → Int32) → (Nat → Int32) → (Nat → Int32) → (Nat → Int32) → (Nat → Int32) → (Nat → Int32) → (Nat → Int32) → (Nat → Int32) → (Nat → Int32) → (Nat → Int32) → (Nat → Int32) → (Nat → Int32) → (Nat → Int32) → (Nat → Int32) → (Nat → Int32) → (Nat → Int32) → (Nat → Int32) → (Nat → Int32) → Prop} {x2 x3 x4 x5 x8 x9 x10 x14 x15 x16 : Int32} {kc ks : Nat} (hI : oc_I NC TC tc nc us ob res tm mk kd par num ann rcv bod mc ml mb)
    (HJ : ∀ (x2 x3 : Int32) {NC TC tc nc us ob : Nat} {fail res fl fc val : Int32} {tm mk kd par num ann rcv bod mc ml mb cd cb ce org co cr fn fe fp : Nat → Int32}, oc_I NC TC tc nc us ob res tm mk kd par num ann rcv bod mc ml mb → J27 x2 x3 (x5 + 1) (nI NC) (nI TC) (nI tc) (nI nc) fail res fl (nI us) (nI ob) fc val tm mk kd par num ann rcv bod mc ml mb cd cb ce org co cr fn fe fp) : wL_law_597 post L xs J27 x2 x3 x4 x5 x8 x9 x10 x14 x15 x16 kc ks (nI NC) (nI TC) (nI tc) (nI nc) fail res fl (nI us) (nI ob) fc val tm mk kd par num ann rcv bod mc ml mb cd cb ce org co cr fn fe fp := by
  unfold wL_law_597
  refine ⟨by decide, oc_ju (oc_jm hI) (fun rr u' J' => ?_) _ _ _ _⟩
  obtain ⟨NC, TC, tc, nc, us, ob, fail, res, fl, fc, val, tm, mk, kd, par, num, ann, rcv, bod, mc, ml, mb, cd, cb, ce, org, co, cr, fn, fe, fp, rfl, hI'⟩ := J'
  exact br_c (fun _ => oc_623 hI' HJ) (fun _ => nm_e (oc_623 hI' HJ))
theorem oc_553 {NC TC tc nc us ob : Nat} {fail res fl fc val : Int32} {tm mk kd par num ann rcv bod mc ml mb cd cb ce org co cr fn fe fp : Nat → Int32} {post : Int32 → Prop} {L : Nat} {xs : Nat → Int32} {J27 : Int32 → Int32 → Int32 → Int32 → Int32 → Int32 → Int32 → Int32 → Int32 → Int32 → Int32 → Int32 → Int32 → Int32 → (Nat → Int32) → (Nat → Int32) → (Nat → Int32) → (Nat → Int32) → (Nat → Int32) → (Nat → Int32) → (Nat → Int32) → (Nat → Int32) → (Nat → Int32) → (Nat → Int32) → (Nat → Int32) → (Nat → Int32) → (Nat → Int32) → (Nat → Int32) → (Nat → Int32) → (Nat → Int32) → (Nat → Int32) → (Nat → Int32) → (Nat → Int32) → (Nat → Int32) → Prop} {x2 x3 x4 x5 x8 x9 x10 x14 x15 : Int32} {kc ks : Nat} (hI : oc_I NC TC tc nc us ob res tm mk kd par num ann rcv bod mc ml mb)
    (HJ : ∀ (x2 x3 : Int32) {NC TC tc nc us ob : Nat} {fail res fl fc val : Int32} {tm mk kd par num ann rcv bod mc ml mb cd cb ce org co cr fn fe fp : Nat → Int32}, oc_I NC TC tc nc us ob res tm mk kd par num ann rcv bod mc ml mb → J27 x2 x3 (x5 + 1) (nI NC) (nI TC) (nI tc) (nI nc) fail res fl (nI us) (nI ob) fc val tm mk kd par num ann rcv bod mc ml mb cd cb ce org co cr fn fe fp) : wL_law_553 post L xs J27 x2 x3 x4 x5 x8 x9 x10 x14 x15 kc ks (nI NC) (nI TC) (nI tc) (nI nc) fail res fl (nI us) (nI ob) fc val tm mk kd par num ann rcv bod mc ml mb cd cb ce org co cr fn fe fp := by
  unfold wL_law_553
  refine ⟨by decide, nm_e (br_c (fun _ => ⟨by decide, oc_rc (by decide) (fun r => oc_597 hI HJ)⟩) (fun _ => oc_jv (oc_jm hI) (fun rr u' J' => ?_) _))⟩
  obtain ⟨NC, TC, tc, nc, us, ob, fail, res, fl, fc, val, tm, mk, kd, par, num, ann, rcv, bod, mc, ml, mb, cd, cb, ce, org, co, cr, fn, fe, fp, rfl, hI'⟩ := J'
  exact br_c (fun _ => oc_597 hI' HJ) (fun _ => nm_e (oc_597 hI' HJ))
theorem oc_541 {NC TC tc nc us ob : Nat} {fail res fl fc val : Int32} {tm mk kd par num ann rcv bod mc ml mb cd cb ce org co cr fn fe fp : Nat → Int32} {post : Int32 → Prop} {L : Nat} {xs : Nat → Int32} {J27 : Int32 → Int32 → Int32 → Int32 → Int32 → Int32 → Int32 → Int32 → Int32 → Int32 → Int32 → Int32 → Int32 → Int32 → (Nat → Int32) → (Nat → Int32) → (Nat → Int32) → (Nat → Int32) → (Nat → Int32) → (Nat → Int32) → (Nat → Int32) → (Nat → Int32) → (Nat → Int32) → (Nat → Int32) → (Nat → Int32) → (Nat → Int32) → (Nat → Int32) → (Nat → Int32) → (Nat → Int32) → (Nat → Int32) → (Nat → Int32) → (Nat → Int32) → (Nat → Int32) → (Nat → Int32) → Prop} {x2 x3 x4 x5 x8 x9 x10 x14 : Int32} {kc ks : Nat} (hI : oc_I NC TC tc nc us ob res tm mk kd par num ann rcv bod mc ml mb)
    (HJ : ∀ (x2 x3 : Int32) {NC TC tc nc us ob : Nat} {fail res fl fc val : Int32} {tm mk kd par num ann rcv bod mc ml mb cd cb ce org co cr fn fe fp : Nat → Int32}, oc_I NC TC tc nc us ob res tm mk kd par num ann rcv bod mc ml mb → J27 x2 x3 (x5 + 1) (nI NC) (nI TC) (nI tc) (nI nc) fail res fl (nI us) (nI ob) fc val tm mk kd par num ann rcv bod mc ml mb cd cb ce org co cr fn fe fp) : wL_law_541 post L xs J27 x2 x3 x4 x5 x8 x9 x10 x14 kc ks (nI NC) (nI TC) (nI tc) (nI nc) fail res fl (nI us) (nI ob) fc val tm mk kd par num ann rcv bod mc ml mb cd cb ce org co cr fn fe fp := by
  unfold wL_law_541
  exact ⟨by decide, oc_rc (by decide) (fun r => oc_553 hI HJ)⟩
theorem oc_27 {post : Int32 → Prop} {L n4 : Nat} {xs : Nat → Int32} {kc ks : Nat} (hL : L ≤ 260) (hn : n4 ≤ 66) (hp : post 1) : ∀ d s, s + d = n4 + 32 → ∀ (x2 x3 : Int32) {NC TC tc nc us ob : Nat} {fail res fl fc val : Int32} {tm mk kd par num ann rcv bod mc ml mb cd cb ce org co cr fn fe fp : Nat → Int32}, oc_I NC TC tc nc us ob res tm mk kd par num ann rcv bod mc ml mb →
    wL_law_27 post L xs (nI n4) kc ks (d + 1) x2 x3 (nI s) (nI NC) (nI TC) (nI tc) (nI nc) fail res fl (nI us) (nI ob) fc val tm mk kd par num ann rcv bod mc ml mb cd cb ce org co cr fn fe fp := by
  have e32 : nI n4 + 32 = nI (n4 + 32) := nI_add n4 32
  intro d
  induction d with
  | zero =>
    intro s hs x2 x3 NC TC tc nc us ob fail res fl fc val tm mk kd par num ann rcv bod mc ml mb cd cb ce org co cr fn fe fp hI
    refine br_t ?_ hp
    rw [e32]
    exact nI_le (by omega) (by omega)
  | succ d ih =>
    intro s hs x2 x3 NC TC tc nc us ob fail res fl fc val tm mk kd par num ann rcv bod mc ml mb cd cb ce org co cr fn fe fp hI
    have HJ : ∀ (x2 x3 : Int32) {NC TC tc nc us ob : Nat} {fail res fl fc val : Int32} {tm mk kd par num ann rcv bod mc ml mb cd cb ce org co cr fn fe fp : Nat → Int32}, oc_I NC TC tc nc us ob res tm mk kd par num ann rcv bod mc ml mb → wL_law_27 post L xs (nI n4) kc ks (d + 1) x2 x3 (nI s + 1) (nI NC) (nI TC) (nI tc) (nI nc) fail res fl (nI us) (nI ob) fc val tm mk kd par num ann rcv bod mc ml mb cd cb ce org co cr fn fe fp := by
      intro x2 x3 NC TC tc nc us ob fail res fl fc val tm mk kd par num ann rcv bod mc ml mb cd cb ce org co cr fn fe fp hI'
      rw [nI_1]; exact ih (s + 1) (by omega) x2 x3 hI'
    have e4 : (4 : Int32) * nI s = nI (4 * s) := pk_mul 4 s
    refine br_f (by rw [e32]; exact nI_ge (by omega) (by omega)) (nm_r e4 ?_)
    refine oc_ce hL (by omega) (fun r82 => oc_nz (fun r83 => ?_))
    rw [nI_1 (4 * s)]
    refine oc_ce hL (by omega) (fun r84 => oc_nz (fun r85 => ?_))
    rw [show nI (4 * s) + 2 = nI (4 * s + 2) from nI_add (4 * s) 2]
    refine oc_ce hL (by omega) (fun r86 => oc_nz (fun r87 => ?_))
    rw [show nI (4 * s) + 3 = nI (4 * s + 3) from nI_add (4 * s) 3]
    refine oc_ce hL (by omega) (fun r88 => oc_nz (fun r89 => ?_))
    refine br_c (fun _ => nm_e (oc_676 hI HJ)) (fun _ => ⟨by decide, nm_e ?_⟩)
    refine br_c (fun _ => oc_rc (by decide) (fun r => ⟨by decide, oc_rc (by decide) (fun r' => oc_je (oc_jm hI) (fun rr u' J' => ?_) _ _ _)⟩)) (fun _ => ?_)
    · obtain ⟨NC, TC, tc, nc, us, ob, fail, res, fl, fc, val, tm, mk, kd, par, num, ann, rcv, bod, mc, ml, mb, cd, cb, ce, org, co, cr, fn, fe, fp, rfl, hI'⟩ := J'
      exact br_c (fun _ => oc_623 hI' HJ) (fun _ => nm_e (oc_623 hI' HJ))
    refine br_c (fun _ => ⟨by decide, oc_jv (oc_jm hI) (fun rr u' J' => ?_) _⟩) (fun _ => ?_)
    · obtain ⟨NC, TC, tc, nc, us, ob, fail, res, fl, fc, val, tm, mk, kd, par, num, ann, rcv, bod, mc, ml, mb, cd, cb, ce, org, co, cr, fn, fe, fp, rfl, hI'⟩ := J'
      exact br_c (fun _ => oc_623 hI' HJ) (fun _ => nm_e (oc_623 hI' HJ))
    refine br_c (fun _ => oc_rc (by decide) (fun r => oc_jo (oc_jm hI) (fun rr u' J' => ?_) _)) (fun _ => ?_)
    · obtain ⟨NC, TC, tc, nc, us, ob, fail, res, fl, fc, val, tm, mk, kd, par, num, ann, rcv, bod, mc, ml, mb, cd, cb, ce, org, co, cr, fn, fe, fp, rfl, hI'⟩ := J'
      exact br_c (fun _ => oc_623 hI' HJ) (fun _ => nm_e (oc_623 hI' HJ))
    refine br_c (fun _ => oc_223 hI HJ) (fun _ => br_c (fun _ => oc_223 hI HJ) (fun _ => ?_))
    refine br_c (fun _ => oc_rc (by decide) (fun r => ⟨by decide, oc_rc (by decide) (fun r' => oc_ja (oc_jm hI) (fun rr u' J' => ?_) _ _ _)⟩)) (fun _ => ?_)
    · obtain ⟨NC, TC, tc, nc, us, ob, fail, res, fl, fc, val, tm, mk, kd, par, num, ann, rcv, bod, mc, ml, mb, cd, cb, ce, org, co, cr, fn, fe, fp, rfl, hI'⟩ := J'
      exact oc_623 hI' HJ
    refine br_c (fun _ => oc_rc (by decide) (fun r => ⟨by decide, oc_js (oc_jm hI) (fun rr u' J' => ?_) _ _⟩)) (fun _ => ?_)
    · obtain ⟨NC, TC, tc, nc, us, ob, fail, res, fl, fc, val, tm, mk, kd, par, num, ann, rcv, bod, mc, ml, mb, cd, cb, ce, org, co, cr, fn, fe, fp, rfl, hI'⟩ := J'
      exact br_c (fun _ => oc_623 hI' HJ) (fun _ => nm_e (oc_623 hI' HJ))
    refine oc_rc (by decide) (fun r => oc_jc (oc_jm hI) (fun T u' J' _ => ?_))
    obtain ⟨NC, TC, tc, nc, us, ob, fail, res, fl, fc, val, tm, mk, kd, par, num, ann, rcv, bod, mc, ml, mb, cd, cb, ce, org, co, cr, fn, fe, fp, rfl, hI'⟩ := J'
    exact br_c (fun _ => oc_541 hI' HJ) (fun _ => ⟨by decide, by decide, br_c (fun _ => oc_541 hI' HJ) (fun _ => oc_553 hI' HJ)⟩)
end
section
/-! the beginning -/
theorem oc_I0 : oc_I 32 32 2 0 0 0 (-1) (oc_in 512) (fun _ => 0) (fun _ => 0) (fun _ => 0) (fun _ => 0) (fun _ => 0) (fun _ => 0) (fun _ => 0) (fun _ => 0) (fun _ => 0) (fun _ => 0) := by
  refine ⟨by omega, by omega, by omega, by omega, by omega, by omega, by omega, fun n hn => absurd hn (Nat.not_lt_zero _), ⟨fun l hl => oc_in_lt _ _ (by omega), fun t ht => ⟨?_, fun l hl => Or.inl (oc_in_lt _ _ (by omega))⟩⟩, fun _ _ => rfl, fun n p hn => absurd hn (Nat.not_lt_zero _), fun n hn => absurd hn (Nat.not_lt_zero _), Or.inl rfl⟩
  have : oc_lc (oc_in 512) t = 0 := oc_sm_z 16 fun i hi => if_pos (oc_in_lt _ _ (by omega))
  rw [this, nI_0]
theorem oc_ini {post : St2 → Prop} {mc ms kc ks : Nat} (h : post (32, 32, 2, 0, -1, -1, 0, 0, 0, 0, -1, oc_in 512, fun _ => 0, fun _ => 0, fun _ => 0, fun _ => 0, fun _ => 0, fun _ => 0, fun _ => 0, fun _ => 0, fun _ => 0, fun _ => 0, fun _ => 0, fun _ => 0, fun _ => 0, fun _ => 0, fun _ => 0, fun _ => 0, fun _ => 0, fun _ => 0, fun _ => 0)) :
    ∀ n i, i + n = 512 → wX_init_242 post mc ms kc ks 32 32 2 0 (-1) (-1) 0 0 0 0 (-1) (n + 1) (nI i) (oc_in i) (fun _ => 0) (fun _ => 0) (fun _ => 0) (fun _ => 0) (fun _ => 0) (fun _ => 0) (fun _ => 0) (fun _ => 0) (fun _ => 0) (fun _ => 0) (fun _ => 0) (fun _ => 0) (fun _ => 0) (fun _ => 0) (fun _ => 0) (fun _ => 0) (fun _ => 0) (fun _ => 0) (fun _ => 0) := by
  intro n
  induction n with
  | zero =>
    intro i hi
    rw [show i = 512 by omega]
    exact br_t (nI_le (a := 512) (by omega) (by omega)) h
  | succ n ih =>
    intro i hi
    refine br_f (nI_ge (b := 512) (by omega) (by omega)) ⟨vp_in_nI (by omega) (by omega), nm_e (nm_r (nI_1 i) ?_)⟩
    rw [nI_clamp (n := i) (by omega)]
    exact ih (i + 1) (by omega)
theorem i_vc (xs : Nat → Int32) (L : Nat) (hL : L ≤ 260) : wpL_law (fun r => r = 1) L xs := by
  unfold wpL_law
  refine ⟨20, 2768, by omega, by omega, ?_⟩
  unfold wpX_init
  refine ⟨by omega, by omega, by omega, by omega, by omega, by omega, by omega, by omega, by omega, by omega, by omega, by omega, by omega, by omega, by omega, by omega, by omega, by omega, by omega, by omega, by omega, by omega, by omega, by omega, by omega, by omega, by omega, by omega, by omega, by omega, by omega, by omega, by omega, by omega, by omega, by omega, by omega, by omega, by omega, by omega, ?_⟩
  refine br_t (by decide) (br_t (by decide) (br_t (by decide) (br_t (by decide) ⟨513, oc_ini ?_ 512 0 rfl⟩)))
  refine ⟨by decide, nm_r (e' := nI ((L + 3) / 4)) ?_ ⟨(L + 3) / 4 + 33, ?_⟩⟩
  · rw [show (Int32.ofNat L) + 3 = nI (L + 3) from nI_add L 3]
    exact pk_div (a := L + 3) (d := 4) (by omega) (by omega) (by omega)
  · exact oc_27 (post := fun r => r = 1) hL (by omega) rfl ((L + 3) / 4 + 32) 0 (by omega) 2 0 (NC := 32) (TC := 32) (tc := 2) (nc := 0) (us := 0) (ob := 0) oc_I0
end
