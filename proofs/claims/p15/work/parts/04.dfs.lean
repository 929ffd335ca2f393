/-! the verdict at a node, and the walk over the term -/
def oc_V0 (par kd num ann bod : Nat → Int32) (r n : Nat) (v : Int32) : Prop :=
  (∃ p : Nat, oc_bo par kd bod r n (num n).toNatClampNeg = (p : Int) ∧ v = ann p) ∨ ((∀ p : Nat, ¬ oc_bo par kd bod r n (num n).toNatClampNeg = (p : Int)) ∧ v = -2)
def oc_Ok (tc : Nat) (tm ann ml : Nat → Int32) (n i : Nat) (ct : Int32) : Prop :=
  i = 0 ∨ ∃ i' k, i = i' + 1 ∧ k < tc ∧ ct = nI k ∧ oc_sub tm k (tm ((ann n).toNatClampNeg * 16 + (ml (n * 8 + i')).toNatClampNeg)).toNatClampNeg
def oc_V1 (tc : Nat) (tm ann mc ml : Nat → Int32) (n : Nat) (ct d v : Int32) : Prop :=
  (ann n = 0 ∧ v = -3) ∨ (¬ ann n = 0 ∧ ((¬ oc_LM tm mc ml n (ann n).toNatClampNeg ∧ v = -5) ∨ (oc_LM tm mc ml n (ann n).toNatClampNeg ∧
    ((∃ i k, d = nI (i + 1) ∧ i < (mc n).toNatClampNeg ∧ k < tc ∧ ct = nI k ∧ ¬ oc_sub tm k (tm ((ann n).toNatClampNeg * 16 + (ml (n * 8 + i)).toNatClampNeg)).toNatClampNeg ∧ v = -7) ∨
     (∃ i, d = nI i ∧ i ≤ (mc n).toNatClampNeg ∧ oc_Ok tc tm ann ml n i ct ∧ ((i < (mc n).toNatClampNeg ∧ v = -100) ∨ (i = (mc n).toNatClampNeg ∧ v = ann n)))))))
def oc_V2 (tc : Nat) (tm num : Nat → Int32) (n : Nat) (ct d v : Int32) : Prop :=
  (d = 0 ∧ v = -100) ∨ (¬ d = 0 ∧ ((ct = 0 ∧ v = -3) ∨ ∃ k, k < tc ∧ ¬ k = 0 ∧ ct = nI k ∧
    ((tm (k * 16 + (num n).toNatClampNeg) = -1 ∧ v = -4) ∨ (¬ tm (k * 16 + (num n).toNatClampNeg) = -1 ∧ v = tm (k * 16 + (num n).toNatClampNeg)))))
def oc_V3 (tc : Nat) (tm num ann : Nat → Int32) (n : Nat) (ct d v : Int32) : Prop :=
  (d = 0 ∧ v = -100) ∨ (¬ d = 0 ∧ ((ann n = 0 ∧ v = -3) ∨ (¬ ann n = 0 ∧
    ((tm ((ann n).toNatClampNeg * 16 + (num n).toNatClampNeg) = -1 ∧ v = -4) ∨ (¬ tm ((ann n).toNatClampNeg * 16 + (num n).toNatClampNeg) = -1 ∧ ∃ k, k < tc ∧ ct = nI k ∧
      ((d = 1 ∧ oc_sub tm k (ann n).toNatClampNeg ∧ v = -100) ∨ (d = 1 ∧ ¬ oc_sub tm k (ann n).toNatClampNeg ∧ v = -6) ∨
       (¬ d = 1 ∧ oc_sub tm k (tm ((ann n).toNatClampNeg * 16 + (num n).toNatClampNeg)).toNatClampNeg ∧ v = ann n) ∨
       (¬ d = 1 ∧ ¬ oc_sub tm k (tm ((ann n).toNatClampNeg * 16 + (num n).toNatClampNeg)).toNatClampNeg ∧ v = -7)))))))
def oc_Vd (tc : Nat) (tm kd par num ann bod mc ml : Nat → Int32) (r n : Nat) (ct : Int32) (cd : Nat → Int32) (v : Int32) : Prop :=
  (kd n = 0 ∧ oc_V0 par kd num ann bod r n v) ∨ (kd n = 1 ∧ oc_V1 tc tm ann mc ml n ct (cd n) v) ∨ (kd n = 2 ∧ oc_V2 tc tm num n ct (cd n) v) ∨ (kd n = 3 ∧ oc_V3 tc tm num ann n ct (cd n) v)
theorem oc_ann {nc tc : Nat} {kd par num ann rcv bod mc ml mb : Nat → Int32} (N : oc_Nd nc tc kd par num ann rcv bod mc ml mb) {p m : Nat} (hp : p < nc) (hm : m < 2 ^ 31) (h : kd p = 1 ∨ bod p = nI m) : ∃ A, A < tc ∧ ann p = nI A := by
  obtain ⟨-, ⟨k1, k2, -⟩ | ⟨-, -, k3, -⟩ | ⟨k1, k2, -⟩ | ⟨-, -, k3, -⟩⟩ := N p hp
  · rcases h with h | h
    · rw [k1] at h; exact absurd h (by decide)
    · rw [k2] at h; exact absurd h (oc_m1' hm)
  · exact k3
  · rcases h with h | h
    · rw [k1] at h; exact absurd h (by decide)
    · rw [k2] at h; exact absurd h (oc_m1' hm)
  · exact k3
theorem oc_sm_mono (f : Nat → Nat) {i : Nat} : ∀ m, i ≤ m → oc_sm f i ≤ oc_sm f m
  | 0, h => by rw [show i = 0 by omega]; exact Nat.le_refl _
  | m + 1, h => by
    by_cases e : i = m + 1
    · rw [e]; exact Nat.le_refl _
    · have := oc_sm_mono f m (show i ≤ m by omega)
      rw [oc_sm]; omega
theorem oc_dfs {nc tc : Nat} {tm mk kd par num ann rcv bod mc ml mb : Nat → Int32} {r : Nat} {rt rn : Nat → Int32} (hc : nc ≤ 32) (htc : tc ≤ 32) (hr : r < nc)
    (N : oc_Nd nc tc kd par num ann rcv bod mc ml mb) (Y : oc_Ty tc tm mk) (T : oc_Tab tc tm kd par num ann rcv bod mc ml mb r rt rn (r + 1))
    (W : Nat → Nat → Nat → Int32 → (Nat → Int32) → Prop) (E : Int32 → Int32 → (Nat → Int32) → Prop) (R : Int32 → (Nat → Int32) → Prop)
    (hp : ∀ f s n c ct cd, s < 64 → n < nc → c < nc → oc_Vd tc tm kd par num ann bod mc ml r n ct cd (-100) → (kd n = 1 → ∃ i, i < 8 ∧ cd n = nI i ∧ mb (n * 8 + i) = nI c) → (¬ kd n = 1 → (cd n = 0 → rcv n = nI c) ∧ (¬ cd n = 0 → bod n = nI c)) → W f (s + 1) c ct (upd cd c 0) → W (f + 1) s n ct cd)
    (he : ∀ f s n ct cd v, s < 64 → n < nc → oc_Vd tc tm kd par num ann bod mc ml r n ct cd v → v < 0 → ¬ v = -100 → E v (nI n) cd → W (f + 1) s n ct cd)
    (hR : ∀ f s ct cd v, s < 64 → oc_Vd tc tm kd par num ann bod mc ml r r ct cd v → ¬ v < 0 → R v cd → W (f + 1) s r ct cd)
    (hu : ∀ f s n p ct cd v, s < 64 → n < nc → p < nc → n ≠ r → par n = nI p → oc_Vd tc tm kd par num ann bod mc ml r n ct cd v → ¬ v < 0 → W f (s + 1) p v (upd cd p (cd p + 1)) → W (f + 1) s n ct cd) :
    ∀ n, n ≤ r → ∀ f s ct cd, cd n = 0 → 64 - s < f → s + 2 * oc_sz par nc n ≤ 65 → (n = r ∨ ∃ p, p < nc ∧ par n = nI p) →
      (rt n < 0 → ∀ cd', E (rt n) (rn n) cd') → (¬ rt n < 0 → n = r → ∀ cd', R (rt n) cd') →
      (¬ rt n < 0 → n ≠ r → ∀ p f' s' cd', p < nc → par n = nI p → 64 - s' < f' → s' + 1 ≤ s + 2 * oc_sz par nc n → (∀ j, n < j → cd' j = cd j) → W f' s' p (rt n) (upd cd' p (cd' p + 1))) →
      W f s n ct cd := by
  intro n
  induction n using Nat.strongRecOn with
  | ind n IH =>
  intro hnr f0 s0 ct0 cd0 hcd hf0 hs0 hpn hE hRR hU
  have hn : n < nc := by omega
  have hPa := oc_Nd_Pa N
  have hsz1 : 1 ≤ oc_sz par nc n := by
    have := oc_sz_c hPa hc hn (fun _ => 0) 0 (fun i hi => absurd hi (Nat.not_lt_zero _)) (fun i j hi => absurd hi (Nat.not_lt_zero _))
    omega
  -- how the walk ends at n with the type of n
  have fin : ∀ f s ct cd, 64 - s < f → s + 2 ≤ s0 + 2 * oc_sz par nc n → (∀ j, n < j → cd j = cd0 j) → oc_Vd tc tm kd par num ann bod mc ml r n ct cd (rt n) → ¬ rt n < 0 → W f s n ct cd := by
    intro f s ct cd hf hs hj hV hneg
    obtain ⟨f', rfl⟩ : ∃ f', f = f' + 1 := ⟨f - 1, by omega⟩
    by_cases e : n = r
    · subst e
      exact hR f' s ct cd _ (by omega) hV hneg (hRR hneg rfl cd)
    · rcases hpn with h | ⟨p, h1, h2⟩
      · exact absurd h e
      · exact hu f' s n p ct cd _ (by omega) hn h1 e h2 hV hneg (hU hneg e p f' (s + 1) cd h1 h2 (by omega) (by omega) hj)
  have err : ∀ f s ct cd v, 64 - s < f → s + 2 ≤ s0 + 2 * oc_sz par nc n → oc_Vd tc tm kd par num ann bod mc ml r n ct cd v → v < 0 → ¬ v = -100 → rt n = v ∧ rn n = nI n → W f s n ct cd := by
    intro f s ct cd v hf hs hV hv h100 hE2
    obtain ⟨f', rfl⟩ : ∃ f', f = f' + 1 := ⟨f - 1, by omega⟩
    have h := hE (by rw [hE2.1]; exact hv) cd
    rw [hE2.1, hE2.2] at h
    exact he f' s n ct cd v (by omega) hn hV hv h100 h
  have hT := T n (by omega)
  obtain ⟨-, ⟨k1, k2, k3⟩ | ⟨k1, k2, ⟨A, hA, eA⟩, m, w4, w5, w6, w7⟩ | ⟨k1, w2, ⟨l, hl, el⟩, a, w4, w5, w6⟩ | ⟨k1, ⟨l, hl, el⟩, ⟨A, hA, eA⟩, a, b, w4, w5, w6, w7, w8, w9, w10⟩⟩ := N n hn
  · -- a variable
    have g := hT.1.1 k1
    rcases oc_bo_3 (kd := kd) (bod := bod) (r := r) hPa hc n hn (num n).toNatClampNeg with h | h | ⟨p, m, h1, h2, h3, h4⟩
    · have q : ∀ p : Nat, ¬ oc_bo par kd bod r n (num n).toNatClampNeg = (p : Int) := fun p hp' => by rw [h] at hp'; omega
      exact err f0 s0 ct0 cd0 (-2) hf0 (by omega) (Or.inl ⟨k1, Or.inr ⟨q, rfl⟩⟩) (by decide) (by decide) (g.2 q)
    · have q : ∀ p : Nat, ¬ oc_bo par kd bod r n (num n).toNatClampNeg = (p : Int) := fun p hp' => by rw [h] at hp'; omega
      exact err f0 s0 ct0 cd0 (-2) hf0 (by omega) (Or.inl ⟨k1, Or.inr ⟨q, rfl⟩⟩) (by decide) (by decide) (g.2 q)
    · obtain ⟨A, hA, eA⟩ := oc_ann N h1 (by omega) h4
      have e := (g.1 p h3).1
      refine fin f0 s0 ct0 cd0 hf0 (by omega) (fun _ _ => rfl) (Or.inl ⟨k1, Or.inl ⟨p, h3, e⟩⟩) ?_
      rw [e, eA]
      exact nI_pos (by omega)
  · -- an object literal
    have g := hT.1.2.1 k1
    have cm : (mc n).toNatClampNeg = m := by rw [w5, nI_clamp (by omega)]
    by_cases hA0 : ann n = 0
    · exact err f0 s0 ct0 cd0 (-3) hf0 (by omega) (Or.inr (Or.inl ⟨k1, Or.inl ⟨hA0, rfl⟩⟩)) (by decide) (by decide) (g.1 hA0)
    rcases Classical.em (oc_LM tm mc ml n (ann n).toNatClampNeg) with hM | hM
    · have gO := (g.2 hA0).2 hM
      rw [cm] at gO
      have hch : ∀ i, i < m → (mb (n * 8 + i)).toNatClampNeg < n ∧ par (mb (n * 8 + i)).toNatClampNeg = nI n := fun i hi => by
        obtain ⟨l, b, x1, x2, x3, x4, x5⟩ := w6 i hi
        rw [x4, nI_clamp (by omega)]
        exact ⟨x3, x5⟩
      have hdis : ∀ i j, i < m → j < m → (mb (n * 8 + i)).toNatClampNeg = (mb (n * 8 + j)).toNatClampNeg → i = j := fun i j hi hj hq => by
        obtain ⟨l, b, x1, x2, x3, x4, x5⟩ := w6 i hi
        obtain ⟨l', b', y1, y2, y3, y4, y5⟩ := w6 j hj
        refine w7 i j hi hj ?_
        rw [x4, y4, nI_clamp (by omega), nI_clamp (by omega)] at hq
        rw [x4, y4, hq]
      have hsz := oc_sz_c hPa hc hn (fun i => (mb (n * 8 + i)).toNatClampNeg) m hch hdis
      have inner : ∀ j i f s ct cd, i + j = m → cd n = nI i → (∀ q, n < q → cd q = cd0 q) → 64 - s < f →
          s + 2 + 2 * oc_sm (fun i => oc_sz par nc (mb (n * 8 + i)).toNatClampNeg) m ≤ s0 + 2 * oc_sz par nc n + 2 * oc_sm (fun i => oc_sz par nc (mb (n * 8 + i)).toNatClampNeg) i →
          ((i = 0 ∧ oc_OB tm ml mb rt rn n (ann n).toNatClampNeg (rt n) (rn n) j 0) ∨ (∃ i' k, i = i' + 1 ∧ k < tc ∧ ct = nI k ∧
            (oc_sub tm k (tm ((ann n).toNatClampNeg * 16 + (ml (n * 8 + i')).toNatClampNeg)).toNatClampNeg → oc_OB tm ml mb rt rn n (ann n).toNatClampNeg (rt n) (rn n) j i) ∧
            (¬ oc_sub tm k (tm ((ann n).toNatClampNeg * 16 + (ml (n * 8 + i')).toNatClampNeg)).toNatClampNeg → rt n = -7 ∧ rn n = nI n))) →
          W f s n ct cd := by
        intro j
        induction j with
        | zero =>
          intro i f s ct cd hij hcd' hq hf hs hG
          have him : i = m := by omega
          have hs2 : s + 2 ≤ s0 + 2 * oc_sz par nc n := by rw [him] at hs; omega
          have ok : oc_Ok tc tm ann ml n i ct → oc_OB tm ml mb rt rn n (ann n).toNatClampNeg (rt n) (rn n) 0 i → W f s n ct cd := fun h1 h2 => by
            have e : rt n = ann n := by
              have := h2.1
              rw [eA, nI_clamp (by omega)] at this
              rw [this, eA]
            refine fin f s ct cd hf hs2 hq (Or.inr (Or.inl ⟨k1, Or.inr ⟨hA0, Or.inr ⟨hM, Or.inr ⟨i, hcd', by omega, h1, Or.inr ⟨by omega, e⟩⟩⟩⟩⟩)) ?_
            rw [e, eA]
            exact nI_pos (by omega)
          rcases hG with ⟨h0, h1⟩ | ⟨i', k, h1, h2, h3, h4, h5⟩
          · exact ok (Or.inl h0) (by rw [h0]; exact h1)
          · rcases Classical.em (oc_sub tm k (tm ((ann n).toNatClampNeg * 16 + (ml (n * 8 + i')).toNatClampNeg)).toNatClampNeg) with hsb | hsb
            · exact ok (Or.inr ⟨i', k, h1, h2, h3, hsb⟩) (h4 hsb)
            · exact err f s ct cd (-7) hf hs2 (Or.inr (Or.inl ⟨k1, Or.inr ⟨hA0, Or.inr ⟨hM, Or.inl ⟨i', k, by rw [hcd', h1], by omega, h2, h3, hsb, rfl⟩⟩⟩⟩)) (by decide) (by decide) (h5 hsb)
        | succ j ih =>
          intro i f s ct cd hij hcd' hq hf hs hG
          have him : i < m := by omega
          have hmono := oc_sm_mono (fun i => oc_sz par nc (mb (n * 8 + i)).toNatClampNeg) m (show i + 1 ≤ m by omega)
          rw [oc_sm] at hmono
          have hs2 : s + 2 ≤ s0 + 2 * oc_sz par nc n := by omega
          have ok : oc_Ok tc tm ann ml n i ct → oc_OB tm ml mb rt rn n (ann n).toNatClampNeg (rt n) (rn n) (j + 1) i → W f s n ct cd := fun h1 h2 => by
            obtain ⟨f', rfl⟩ : ∃ f', f = f' + 1 := ⟨f - 1, by omega⟩
            obtain ⟨l, b, x1, x2, x3, x4, x5⟩ := w6 i him
            have cb : (mb (n * 8 + i)).toNatClampNeg = b := by rw [x4, nI_clamp (by omega)]
            unfold oc_OB at h2
            rw [cb] at h2 hmono
            refine hp f' s n b ct cd (by omega) hn (by omega) (Or.inr (Or.inl ⟨k1, Or.inr ⟨hA0, Or.inr ⟨hM, Or.inr ⟨i, hcd', by omega, h1, Or.inl ⟨by omega, rfl⟩⟩⟩⟩⟩)) (fun _ => ⟨i, by omega, hcd', x4⟩) (fun z => absurd k1 z) ?_
            refine IH b x3 (by omega) f' (s + 1) ct _ pk_us (by omega) (by omega) (Or.inr ⟨n, hn, x5⟩) (fun z cd' => ?_) (fun _ z => by omega) (fun z _ p f'' s' cd' hp1 hpp hf'' hs' hcj => ?_)
            · have y := h2.1 z
              have y2 := hE (by rw [y.1]; exact z) cd'
              rw [y.1, y.2] at y2
              exact y2
            · rw [x5, nI_eq (by omega) (by omega)] at hpp
              subst hpp
              rcases (T b (by omega)).2 with y | ⟨k, y1, y2⟩
              · exact absurd y z
              have e1 : cd' n + 1 = nI (i + 1) := by
                rw [hcj n x3, pk_un (by omega), hcd', nI_1]
              refine ih (i + 1) f'' s' (rt b) _ (by omega) (by rw [pk_us, e1]) (fun q hq' => ?_) hf'' ?_ (Or.inr ⟨i, k, rfl, y1, y2, ?_, ?_⟩)
              · rw [pk_un (by omega), hcj q (by omega), pk_un (by omega), hq q hq']
              · rw [oc_sm, cb]; omega
              · intro hsb
                refine (h2.2 z).1 ?_
                rw [y2, nI_clamp (by omega)]
                exact hsb
              · intro hsb
                refine (h2.2 z).2 ?_
                rw [y2, nI_clamp (by omega)]
                exact hsb
          rcases hG with ⟨h0, h1⟩ | ⟨i', k, h1, h2, h3, h4, h5⟩
          · exact ok (Or.inl h0) (by rw [h0]; exact h1)
          · rcases Classical.em (oc_sub tm k (tm ((ann n).toNatClampNeg * 16 + (ml (n * 8 + i')).toNatClampNeg)).toNatClampNeg) with hsb | hsb
            · exact ok (Or.inr ⟨i', k, h1, h2, h3, hsb⟩) (h4 hsb)
            · exact err f s ct cd (-7) hf hs2 (Or.inr (Or.inl ⟨k1, Or.inr ⟨hA0, Or.inr ⟨hM, Or.inl ⟨i', k, by rw [hcd', h1], by omega, h2, h3, hsb, rfl⟩⟩⟩⟩)) (by decide) (by decide) (h5 hsb)
      exact inner m 0 f0 s0 ct0 cd0 (by omega) (by rw [hcd, nI_0]) (fun _ _ => rfl) hf0 (by rw [show oc_sm (fun i => oc_sz par nc (mb (n * 8 + i)).toNatClampNeg) 0 = 0 from rfl]; omega) (Or.inl ⟨rfl, gO⟩)
    · exact err f0 s0 ct0 cd0 (-5) hf0 (by omega) (Or.inr (Or.inl ⟨k1, Or.inr ⟨hA0, Or.inl ⟨hM, rfl⟩⟩⟩)) (by decide) (by decide) ((g.2 hA0).1 hM)
  · -- an invocation
    have g := hT.1.2.2.1 k1
    rw [w5, nI_clamp (by omega), el, nI_clamp (by omega)] at g
    have hsz := oc_sz_c hPa hc hn (fun _ => a) 1 (fun _ _ => ⟨w4, w6⟩) (fun i j hi hj _ => by omega)
    rw [oc_sm, oc_sm] at hsz
    obtain ⟨f', rfl⟩ : ∃ f', f0 = f' + 1 := ⟨f0 - 1, by omega⟩
    refine hp f' s0 n a ct0 cd0 (by omega) hn (by omega) (Or.inr (Or.inr (Or.inl ⟨k1, Or.inl ⟨hcd, rfl⟩⟩))) (fun z => by rw [k1] at z; exact absurd z (by decide)) (fun _ => ⟨fun _ => w5, fun z => absurd hcd z⟩) ?_
    refine IH a w4 (by omega) f' (s0 + 1) ct0 _ pk_us (by omega) (by omega) (Or.inr ⟨n, hn, w6⟩) (fun z cd' => ?_) (fun _ z => by omega) (fun z _ p f'' s' cd' hp1 hpp hf'' hs' hcj => ?_)
    · have y := g.1 z
      have y2 := hE (by rw [y.1]; exact z) cd'
      rw [y.1, y.2] at y2
      exact y2
    · rw [w6, nI_eq (by omega) (by omega)] at hpp
      subst hpp
      have e1 : upd cd' n (cd' n + 1) n = 1 := by
        rw [pk_us, hcj n w4, pk_un (by omega), hcd]; decide
      have e2 : ¬ upd cd' n (cd' n + 1) n = 0 := by rw [e1]; decide
      have e3 : ∀ j, n < j → upd cd' n (cd' n + 1) j = cd0 j := fun j hj => by rw [pk_un (by omega), hcj j (by omega), pk_un (by omega)]
      have g2 := g.2 z
      rcases (T a (by omega)).2 with y | ⟨k, y1, y2⟩
      · exact absurd y z
      by_cases z0 : rt a = 0
      · exact err f'' s' (rt a) _ (-3) hf'' (by omega) (Or.inr (Or.inr (Or.inl ⟨k1, Or.inr ⟨e2, Or.inl ⟨z0, rfl⟩⟩⟩))) (by decide) (by decide) (g2.1 z0)
      have g3 := g2.2 z0
      have hk0 : ¬ k = 0 := fun q => z0 (by rw [y2, q, nI_0])
      rw [y2, nI_clamp (by omega)] at g3
      by_cases zm : tm (k * 16 + l) = -1
      · exact err f'' s' (rt a) _ (-4) hf'' (by omega) (Or.inr (Or.inr (Or.inl ⟨k1, Or.inr ⟨e2, Or.inr ⟨k, y1, hk0, y2, Or.inl ⟨by rw [el, nI_clamp (by omega)]; exact zm, rfl⟩⟩⟩⟩))) (by decide) (by decide) (g3.1 zm)
      · have g4 := g3.2 zm
        rcases (Y.2 k y1).2 l hl with w | ⟨m', w1, w2'⟩
        · exact absurd w zm
        refine fin f'' s' (rt a) _ hf'' (by omega) e3 (Or.inr (Or.inr (Or.inl ⟨k1, Or.inr ⟨e2, Or.inr ⟨k, y1, hk0, y2, Or.inr ⟨by rw [el, nI_clamp (by omega)]; exact zm, by rw [el, nI_clamp (by omega)]; exact g4.1⟩⟩⟩⟩))) ?_
        rw [g4.1, w2']
        exact nI_pos (by omega)
  · -- an update
    have g := hT.1.2.2.2 k1
    rw [w7, w8, nI_clamp (n := a) (by omega), nI_clamp (n := b) (by omega)] at g
    have hsz := oc_sz_c hPa hc hn (fun i => if i = 0 then a else b) 2 (fun i _ => by
      by_cases q : i = 0
      · rw [if_pos q]; exact ⟨w4, w9⟩
      · rw [if_neg q]; exact ⟨w5, w10⟩) (fun i j hi hj q => by
      by_cases q1 : i = 0
      · by_cases q2 : j = 0
        · omega
        · rw [if_pos q1, if_neg q2] at q; exact absurd q w6
      · by_cases q2 : j = 0
        · rw [if_neg q1, if_pos q2] at q; exact absurd q.symm w6
        · omega)
    rw [oc_sm, oc_sm, oc_sm, if_pos rfl, if_neg (by decide)] at hsz
    obtain ⟨f', rfl⟩ : ∃ f', f0 = f' + 1 := ⟨f0 - 1, by omega⟩
    have nk1 : ¬ kd n = 1 := fun z => by rw [k1] at z; exact absurd z (by decide)
    refine hp f' s0 n a ct0 cd0 (by omega) hn (by omega) (Or.inr (Or.inr (Or.inr ⟨k1, Or.inl ⟨hcd, rfl⟩⟩))) (fun z => absurd z nk1) (fun _ => ⟨fun _ => w7, fun z => absurd hcd z⟩) ?_
    refine IH a w4 (by omega) f' (s0 + 1) ct0 _ pk_us (by omega) (by omega) (Or.inr ⟨n, hn, w9⟩) (fun z cd' => ?_) (fun _ z => by omega) (fun z _ p f'' s' cd' hp1 hpp hf'' hs' hcj => ?_)
    · have y := g.1 z
      have y2 := hE (by rw [y.1]; exact z) cd'
      rw [y.1, y.2] at y2
      exact y2
    rw [w9, nI_eq (by omega) (by omega)] at hpp
    subst hpp
    have e1 : upd cd' n (cd' n + 1) n = 1 := by
      rw [pk_us, hcj n w4, pk_un (by omega), hcd]; decide
    have e2 : ¬ upd cd' n (cd' n + 1) n = 0 := by rw [e1]; decide
    have e3 : ∀ j, n < j → upd cd' n (cd' n + 1) j = cd0 j := fun j hj => by rw [pk_un (by omega), hcj j (by omega), pk_un (by omega)]
    have g2 := g.2 z
    rcases (T a (by omega)).2 with y | ⟨k, y1, y2⟩
    · exact absurd y z
    by_cases z0 : ann n = 0
    · exact err f'' s' (rt a) _ (-3) hf'' (by omega) (Or.inr (Or.inr (Or.inr ⟨k1, Or.inr ⟨e2, Or.inl ⟨z0, rfl⟩⟩⟩))) (by decide) (by decide) (g2.1 z0)
    have g3 := g2.2 z0
    by_cases zm : tm ((ann n).toNatClampNeg * 16 + (num n).toNatClampNeg) = -1
    · exact err f'' s' (rt a) _ (-4) hf'' (by omega) (Or.inr (Or.inr (Or.inr ⟨k1, Or.inr ⟨e2, Or.inr ⟨z0, Or.inl ⟨zm, rfl⟩⟩⟩⟩))) (by decide) (by decide) (g3.1 zm)
    have g4 := g3.2 zm
    rw [y2, nI_clamp (by omega)] at g4
    rcases Classical.em (oc_sub tm k (ann n).toNatClampNeg) with hsb | hsb
    · have g5 := g4.2 hsb
      obtain ⟨f3, rfl⟩ : ∃ f3, f'' = f3 + 1 := ⟨f'' - 1, by omega⟩
      refine hp f3 s' n b (rt a) _ (by omega) hn (by omega) (Or.inr (Or.inr (Or.inr ⟨k1, Or.inr ⟨e2, Or.inr ⟨z0, Or.inr ⟨zm, k, y1, y2, Or.inl ⟨e1, hsb, rfl⟩⟩⟩⟩⟩))) (fun q => absurd q nk1) (fun _ => ⟨fun q => absurd q e2, fun _ => w8⟩) ?_
      refine IH b w5 (by omega) f3 (s' + 1) (rt a) _ pk_us (by omega) (by omega) (Or.inr ⟨n, hn, w10⟩) (fun q cd2 => ?_) (fun _ q => by omega) (fun q _ p f4 s4 cd2 hp4 hpp4 hf4 hs4 hcj4 => ?_)
      · have y := g5.1 q
        have y3 := hE (by rw [y.1]; exact q) cd2
        rw [y.1, y.2] at y3
        exact y3
      · rw [w10, nI_eq (by omega) (by omega)] at hpp4
        subst hpp4
        have d1 : upd cd2 n (cd2 n + 1) n = 2 := by
          rw [pk_us, hcj4 n w5, pk_un (by omega), e1]; decide
        have d2 : ¬ upd cd2 n (cd2 n + 1) n = 0 := by rw [d1]; decide
        have d4 : ¬ upd cd2 n (cd2 n + 1) n = 1 := by rw [d1]; decide
        have d3 : ∀ j, n < j → upd cd2 n (cd2 n + 1) j = cd0 j := fun j hj => by rw [pk_un (by omega), hcj4 j (by omega), pk_un (by omega), e3 j hj]
        have g6 := g5.2 q
        rcases (T b (by omega)).2 with y | ⟨k', x1, x2⟩
        · exact absurd y q
        rw [x2, nI_clamp (by omega)] at g6
        rcases Classical.em (oc_sub tm k' (tm ((ann n).toNatClampNeg * 16 + (num n).toNatClampNeg)).toNatClampNeg) with hsb2 | hsb2
        · have g7 := g6.2 hsb2
          refine fin f4 s4 (rt b) _ hf4 (by omega) d3 (Or.inr (Or.inr (Or.inr ⟨k1, Or.inr ⟨d2, Or.inr ⟨z0, Or.inr ⟨zm, k', x1, x2, Or.inr (Or.inr (Or.inl ⟨d4, hsb2, g7.1⟩))⟩⟩⟩⟩))) ?_
          rw [g7.1, eA]
          exact nI_pos (by omega)
        · exact err f4 s4 (rt b) _ (-7) hf4 (by omega) (Or.inr (Or.inr (Or.inr ⟨k1, Or.inr ⟨d2, Or.inr ⟨z0, Or.inr ⟨zm, k', x1, x2, Or.inr (Or.inr (Or.inr ⟨d4, hsb2, rfl⟩))⟩⟩⟩⟩))) (by decide) (by decide) (g6.1 hsb2)
    · exact err f'' s' (rt a) _ (-6) hf'' (by omega) (Or.inr (Or.inr (Or.inr ⟨k1, Or.inr ⟨e2, Or.inr ⟨z0, Or.inr ⟨zm, k, y1, y2, Or.inr (Or.inl ⟨e1, hsb, rfl⟩)⟩⟩⟩⟩))) (by decide) (by decide) (g4.1 hsb)
