/-! the typing of one node from the table of its children's -/
def oc_OB (tm ml mb rt rn : Nat → Int32) (n A : Nat) (t e : Int32) : Nat → Nat → Prop
  | 0, _ => t = nI A ∧ e = -1
  | j + 1, i => (rt (mb (n * 8 + i)).toNatClampNeg < 0 → t = rt (mb (n * 8 + i)).toNatClampNeg ∧ e = rn (mb (n * 8 + i)).toNatClampNeg) ∧
      (¬ rt (mb (n * 8 + i)).toNatClampNeg < 0 →
        (oc_sub tm (rt (mb (n * 8 + i)).toNatClampNeg).toNatClampNeg (tm (A * 16 + (ml (n * 8 + i)).toNatClampNeg)).toNatClampNeg → oc_OB tm ml mb rt rn n A t e j (i + 1)) ∧
        (¬ oc_sub tm (rt (mb (n * 8 + i)).toNatClampNeg).toNatClampNeg (tm (A * 16 + (ml (n * 8 + i)).toNatClampNeg)).toNatClampNeg → t = -7 ∧ e = nI n))
def oc_LM (tm mc ml : Nat → Int32) (n A : Nat) : Prop := mc n = nI (oc_lc tm A) ∧ ∀ i, i < (mc n).toNatClampNeg → ¬ tm (A * 16 + (ml (n * 8 + i)).toNatClampNeg) = -1
def oc_LT (tm kd par num ann rcv bod mc ml mb : Nat → Int32) (r : Nat) (rt rn : Nat → Int32) (n : Nat) (t e : Int32) : Prop :=
  (kd n = 0 → (∀ p : Nat, oc_bo par kd bod r n (num n).toNatClampNeg = (p : Int) → t = ann p ∧ e = -1) ∧
      ((∀ p : Nat, ¬ oc_bo par kd bod r n (num n).toNatClampNeg = (p : Int)) → t = -2 ∧ e = nI n)) ∧
  (kd n = 1 → (ann n = 0 → t = -3 ∧ e = nI n) ∧ (¬ ann n = 0 →
      (¬ oc_LM tm mc ml n (ann n).toNatClampNeg → t = -5 ∧ e = nI n) ∧
      (oc_LM tm mc ml n (ann n).toNatClampNeg → oc_OB tm ml mb rt rn n (ann n).toNatClampNeg t e (mc n).toNatClampNeg 0))) ∧
  (kd n = 2 → (rt (rcv n).toNatClampNeg < 0 → t = rt (rcv n).toNatClampNeg ∧ e = rn (rcv n).toNatClampNeg) ∧ (¬ rt (rcv n).toNatClampNeg < 0 →
      (rt (rcv n).toNatClampNeg = 0 → t = -3 ∧ e = nI n) ∧ (¬ rt (rcv n).toNatClampNeg = 0 →
        (tm ((rt (rcv n).toNatClampNeg).toNatClampNeg * 16 + (num n).toNatClampNeg) = -1 → t = -4 ∧ e = nI n) ∧
        (¬ tm ((rt (rcv n).toNatClampNeg).toNatClampNeg * 16 + (num n).toNatClampNeg) = -1 → t = tm ((rt (rcv n).toNatClampNeg).toNatClampNeg * 16 + (num n).toNatClampNeg) ∧ e = -1)))) ∧
  (kd n = 3 → (rt (rcv n).toNatClampNeg < 0 → t = rt (rcv n).toNatClampNeg ∧ e = rn (rcv n).toNatClampNeg) ∧ (¬ rt (rcv n).toNatClampNeg < 0 →
      (ann n = 0 → t = -3 ∧ e = nI n) ∧ (¬ ann n = 0 →
        (tm ((ann n).toNatClampNeg * 16 + (num n).toNatClampNeg) = -1 → t = -4 ∧ e = nI n) ∧
        (¬ tm ((ann n).toNatClampNeg * 16 + (num n).toNatClampNeg) = -1 →
          (¬ oc_sub tm (rt (rcv n).toNatClampNeg).toNatClampNeg (ann n).toNatClampNeg → t = -6 ∧ e = nI n) ∧
          (oc_sub tm (rt (rcv n).toNatClampNeg).toNatClampNeg (ann n).toNatClampNeg →
            (rt (bod n).toNatClampNeg < 0 → t = rt (bod n).toNatClampNeg ∧ e = rn (bod n).toNatClampNeg) ∧ (¬ rt (bod n).toNatClampNeg < 0 →
              (¬ oc_sub tm (rt (bod n).toNatClampNeg).toNatClampNeg (tm ((ann n).toNatClampNeg * 16 + (num n).toNatClampNeg)).toNatClampNeg → t = -7 ∧ e = nI n) ∧
              (oc_sub tm (rt (bod n).toNatClampNeg).toNatClampNeg (tm ((ann n).toNatClampNeg * 16 + (num n).toNatClampNeg)).toNatClampNeg → t = ann n ∧ e = -1)))))))
def oc_Tab (tc : Nat) (tm kd par num ann rcv bod mc ml mb : Nat → Int32) (r : Nat) (rt rn : Nat → Int32) (N : Nat) : Prop :=
  ∀ n, n < N → oc_LT tm kd par num ann rcv bod mc ml mb r rt rn n (rt n) (rn n) ∧ (rt n < 0 ∨ ∃ t, t < tc ∧ rt n = nI t)
theorem oc_OB_cg {tm ml mb rt rn rt' rn' : Nat → Int32} {n A m : Nat} {t e : Int32} (h : ∀ i, i < m → rt' (mb (n * 8 + i)).toNatClampNeg = rt (mb (n * 8 + i)).toNatClampNeg ∧ rn' (mb (n * 8 + i)).toNatClampNeg = rn (mb (n * 8 + i)).toNatClampNeg) :
    ∀ j i, i + j = m → oc_OB tm ml mb rt rn n A t e j i → oc_OB tm ml mb rt' rn' n A t e j i
  | 0, _, _, q => q
  | j + 1, i, hm, q => by
    obtain ⟨e1, e2⟩ := h i (by omega)
    unfold oc_OB at q ⊢
    rw [e1, e2]
    exact ⟨q.1, fun z => ⟨fun w => oc_OB_cg h j (i + 1) (by omega) ((q.2 z).1 w), (q.2 z).2⟩⟩
theorem oc_LT_cg {nc tc : Nat} {tm kd par num ann rcv bod mc ml mb : Nat → Int32} {r : Nat} {rt rn rt' rn' : Nat → Int32} {n : Nat} {t e : Int32} (hc : nc ≤ 32) (hn : n < nc) (N : oc_Nc nc tc kd par num ann rcv bod mc ml mb n)
    (h : ∀ m, m < n → rt' m = rt m ∧ rn' m = rn m) (q : oc_LT tm kd par num ann rcv bod mc ml mb r rt rn n t e) : oc_LT tm kd par num ann rcv bod mc ml mb r rt' rn' n t e := by
  obtain ⟨-, ⟨k1, k2⟩ | ⟨k1, k2, k3, m, w4, w5, w6, w7⟩ | ⟨w1, w2, w3, a, w4, w5, w6⟩ | ⟨w1, w2, w3, a, b, w4, w5, w6, w7, w8, w9, w10⟩⟩ := N
  · refine ⟨q.1, fun z => ?_, fun z => ?_, fun z => ?_⟩ <;> (rw [k1] at z; exact absurd z (by decide))
  · refine ⟨fun z => ?_, fun z => ?_, fun z => ?_, fun z => ?_⟩
    · rw [k1] at z; exact absurd z (by decide)
    · have g := q.2.1 z
      refine ⟨g.1, fun y => ⟨(g.2 y).1, fun x => ?_⟩⟩
      have ec : (mc n).toNatClampNeg = m := by rw [w5, nI_clamp (by omega)]
      refine oc_OB_cg (m := m) (fun i hi => ?_) _ 0 (by rw [ec]; omega) ((g.2 y).2 x)
      obtain ⟨l, b, x1, x2, x3, x4, x5⟩ := w6 i hi
      rw [x4, nI_clamp (by omega)]
      exact h b x3
    · rw [k1] at z; exact absurd z (by decide)
    · rw [k1] at z; exact absurd z (by decide)
  · refine ⟨fun z => ?_, fun z => ?_, fun z => ?_, fun z => ?_⟩
    · rw [w1] at z; exact absurd z (by decide)
    · rw [w1] at z; exact absurd z (by decide)
    · have g := q.2.2.1 z
      rw [w5, nI_clamp (by omega)] at g ⊢
      rw [(h a w4).1, (h a w4).2]
      exact g
    · rw [w1] at z; exact absurd z (by decide)
  · refine ⟨fun z => ?_, fun z => ?_, fun z => ?_, fun z => ?_⟩
    · rw [w1] at z; exact absurd z (by decide)
    · rw [w1] at z; exact absurd z (by decide)
    · rw [w1] at z; exact absurd z (by decide)
    · have g := q.2.2.2 z
      rw [w7, w8, nI_clamp (n := a) (by omega), nI_clamp (n := b) (by omega)] at g ⊢
      rw [(h a w4).1, (h a w4).2, (h b w5).1, (h b w5).2]
      exact g
theorem oc_Tab_up {nc tc : Nat} {tm kd par num ann rcv bod mc ml mb : Nat → Int32} {r : Nat} {rt rn : Nat → Int32} {n : Nat} {t e : Int32} (hc : nc ≤ 32) (hn : n < nc) (N : oc_Nd nc tc kd par num ann rcv bod mc ml mb)
    (T : oc_Tab tc tm kd par num ann rcv bod mc ml mb r rt rn n) (q : oc_LT tm kd par num ann rcv bod mc ml mb r rt rn n t e) (ht : t < 0 ∨ ∃ k, k < tc ∧ t = nI k) :
    oc_Tab tc tm kd par num ann rcv bod mc ml mb r (upd rt n t) (upd rn n e) (n + 1) := fun m hm => by
  by_cases z : m = n
  · subst z
    rw [pk_us, pk_us]
    exact ⟨oc_LT_cg hc hn (N m hn) (fun j hj => ⟨pk_un (by omega), pk_un (by omega)⟩) q, ht⟩
  · rw [pk_un z, pk_un z]
    obtain ⟨a, b⟩ := T m (by omega)
    exact ⟨oc_LT_cg hc (by omega) (N m (by omega)) (fun j hj => ⟨pk_un (by omega), pk_un (by omega)⟩) a, b⟩
