/-! rings: one fold over the threads, and the way around -/
def lo_r1 (sl rq : Nat → Bool) (M : Nat → Nat) (t : Nat) (o : Option (Nat × Nat × Nat)) : Option (Nat × Nat × Nat) :=
  match o with
  | none => none
  | some v => if sl t = true then (if rq t = true then (if v.1 &&& M t = 0 then some (v.1 ||| M t, v.2.1 + 1, t) else none) else none) else some v
def lo_r4 (sl rq : Nat → Bool) (M : Nat → Nat) (k : Nat) : Option (Nat × Nat × Nat) := lo_F (lo_r1 sl rq M) (some (0, 0, 4)) k
theorem lo_r4_s (sl rq : Nat → Bool) (M : Nat → Nat) (k : Nat) : lo_r4 sl rq M (k + 1) = lo_r1 sl rq M k (lo_r4 sl rq M k) := rfl
theorem lo_r4_none (sl rq : Nat → Bool) (M : Nat → Nat) {k : Nat} (h : lo_r4 sl rq M k = none) : ∀ N, k ≤ N → lo_r4 sl rq M N = none := by
  intro N hN
  induction N with
  | zero =>
    have e : k = 0 := by omega
    rw [← e]; exact h
  | succ N ih =>
    by_cases e : k = N + 1
    · rw [← e]; exact h
    · rw [lo_r4_s, ih (by omega)]
      rfl
theorem lo_r4_congr {sl sl' rq rq' : Nat → Bool} {M M' : Nat → Nat} (N : Nat) (h1 : ∀ t, t < N → sl t = sl' t) (h2 : ∀ t, t < N → sl t = true → rq t = rq' t)
    (h3 : ∀ t, t < N → sl t = true → rq t = true → M t = M' t) : lo_r4 sl rq M N = lo_r4 sl' rq' M' N :=
  lo_F_congr _ _ _ _ (fun t ht s => by
    unfold lo_r1
    cases s with
    | none => rfl
    | some v =>
      show (if sl t = true then _ else _) = (if sl' t = true then _ else _)
      rw [← h1 t ht]
      by_cases e : sl t = true
      · rw [if_pos e, if_pos e, ← h2 t ht e]
        by_cases e2 : rq t = true
        · rw [if_pos e2, if_pos e2, ← h3 t ht e e2]
        · rw [if_neg e2, if_neg e2]
      · rw [if_neg e, if_neg e])
/-- what stands when the fold over the first k threads has not fallen -/
def lo_rI (sl rq : Nat → Bool) (M : Nat → Nat) (k : Nat) (v : Nat × Nat × Nat) : Prop :=
  (∀ t, t < k → sl t = true → rq t = true) ∧
  (∀ t, t < k → sl t = true → ∀ p, (M t).testBit p = true → v.1.testBit p = true) ∧
  (∀ t u, t < k → u < k → sl t = true → sl u = true → ∀ p, (M t).testBit p = true → (M u).testBit p = true → t = u) ∧
  v.2.1 ≤ k ∧ (0 < v.2.1 → v.2.2 < k ∧ sl v.2.2 = true) ∧ (v.2.1 = 0 → v.2.2 = 4)
theorem lo_r4_inv (sl rq : Nat → Bool) (M : Nat → Nat) : ∀ k v, lo_r4 sl rq M k = some v → lo_rI sl rq M k v := by
  intro k
  induction k with
  | zero =>
    intro v h
    have e : ((0, 0, 4) : Nat × Nat × Nat) = v := Option.some.inj h
    subst e
    exact ⟨fun t ht => absurd ht (Nat.not_lt_zero t), fun t ht => absurd ht (Nat.not_lt_zero t), fun t u ht => absurd ht (Nat.not_lt_zero t), Nat.le_refl 0, fun q => absurd q (Nat.lt_irrefl 0), fun _ => rfl⟩
  | succ k ih =>
    intro v h
    rw [lo_r4_s] at h
    cases e : lo_r4 sl rq M k with
    | none =>
      rw [e] at h
      have h' : (none : Option (Nat × Nat × Nat)) = some v := h
      cases h'
    | some w =>
      rw [e] at h
      obtain ⟨i1, i2, i3, i4, i5, i6⟩ := ih w e
      have h' : (if sl k = true then (if rq k = true then (if w.1 &&& M k = 0 then some (w.1 ||| M k, w.2.1 + 1, k) else none) else none) else some w) = some v := h
      by_cases es : sl k = true
      · rw [if_pos es] at h'
        by_cases er : rq k = true
        · rw [if_pos er] at h'
          by_cases em : w.1 &&& M k = 0
          · rw [if_pos em] at h'
            have ev := Option.some.inj h'
            subst ev
            have hdis : ∀ p, w.1.testBit p = true → (M k).testBit p = true → False := by
              intro p a b
              have c : (w.1 &&& M k).testBit p = true := by rw [Nat.testBit_and, a, b]; rfl
              rw [em, Nat.zero_testBit] at c
              exact absurd c (by decide)
            refine ⟨fun t ht hs => ?_, fun t ht hs p hp => ?_, fun t u ht hu hst hsu p hpt hpu => ?_, ?_, fun _ => ⟨by show k < k + 1; omega, es⟩, fun q => ?_⟩
            · by_cases q : t = k
              · subst q; exact er
              · exact i1 t (by omega) hs
            · show (w.1 ||| M k).testBit p = true
              rw [Nat.testBit_or, Bool.or_eq_true]
              by_cases q : t = k
              · subst q; exact Or.inr hp
              · exact Or.inl (i2 t (by omega) hs p hp)
            · by_cases q : t = k
              · by_cases q2 : u = k
                · omega
                · subst q; exact (hdis p (i2 u (by omega) hsu p hpu) hpt).elim
              · by_cases q2 : u = k
                · subst q2; exact (hdis p (i2 t (by omega) hst p hpt) hpu).elim
                · exact i3 t u (by omega) (by omega) hst hsu p hpt hpu
            · show w.2.1 + 1 ≤ k + 1
              omega
            · exact absurd q (Nat.succ_ne_zero _)
          · rw [if_neg em] at h'; cases h'
        · rw [if_neg er] at h'; cases h'
      · rw [if_neg es] at h'
        have ev := Option.some.inj h'
        subst ev
        have hk : ∀ t, t < k + 1 → sl t = true → t < k := by
          intro t ht hs
          by_cases q : t = k
          · subst q; exact absurd hs es
          · omega
        exact ⟨fun t ht hs => i1 t (hk t ht hs) hs, fun t ht hs => i2 t (hk t ht hs) hs, fun t u ht hu hst hsu => i3 t u (hk t ht hst) (hk u hu hsu) hst hsu, by omega, fun q => ⟨by have := (i5 q).1; omega, (i5 q).2⟩, i6⟩
/-- the first of the four with P, or 4 -/
def lo_fst (P : Nat → Bool) : Nat → Nat → Nat
  | 0, _ => 4
  | d + 1, j => if P j = true then j else lo_fst P d (j + 1)
/-- the last below N with P, or 4 -/
def lo_lf (P : Nat → Bool) (t s : Nat) : Nat := if P t = true then t else s
def lo_lst (P : Nat → Bool) (N : Nat) : Nat := lo_F (lo_lf P) 4 N
theorem lo_fst_4 (P : Nat → Bool) : lo_fst P 4 0 = if P 0 = true then 0 else if P 1 = true then 1 else if P 2 = true then 2 else if P 3 = true then 3 else 4 := rfl
theorem lo_lst_4 (P : Nat → Bool) : lo_lst P 4 = if P 3 = true then 3 else if P 2 = true then 2 else if P 1 = true then 1 else if P 0 = true then 0 else 4 := rfl
theorem lo_fst_lst (P : Nat → Bool) (hu : ∀ t u, t < 4 → u < 4 → P t = true → P u = true → t = u) : lo_fst P 4 0 = lo_lst P 4 := by
  rw [lo_fst_4, lo_lst_4]
  have h01 := hu 0 1 (by decide) (by decide)
  have h02 := hu 0 2 (by decide) (by decide)
  have h03 := hu 0 3 (by decide) (by decide)
  have h12 := hu 1 2 (by decide) (by decide)
  have h13 := hu 1 3 (by decide) (by decide)
  have h23 := hu 2 3 (by decide) (by decide)
  cases e0 : P 0 <;> cases e1 : P 1 <;> cases e2 : P 2 <;> cases e3 : P 3 <;>
    first
    | rfl
    | exact absurd (h01 e0 e1) (by decide)
    | exact absurd (h02 e0 e2) (by decide)
    | exact absurd (h03 e0 e3) (by decide)
    | exact absurd (h12 e1 e2) (by decide)
    | exact absurd (h13 e1 e3) (by decide)
    | exact absurd (h23 e2 e3) (by decide)
theorem lo_fst_or (P : Nat → Bool) : lo_fst P 4 0 = 4 ∨ (lo_fst P 4 0 < 4 ∧ P (lo_fst P 4 0) = true) := by
  rw [lo_fst_4]
  by_cases e0 : P 0 = true
  · rw [if_pos e0]; exact Or.inr ⟨by decide, e0⟩
  · rw [if_neg e0]
    by_cases e1 : P 1 = true
    · rw [if_pos e1]; exact Or.inr ⟨by decide, e1⟩
    · rw [if_neg e1]
      by_cases e2 : P 2 = true
      · rw [if_pos e2]; exact Or.inr ⟨by decide, e2⟩
      · rw [if_neg e2]
        by_cases e3 : P 3 = true
        · rw [if_pos e3]; exact Or.inr ⟨by decide, e3⟩
        · rw [if_neg e3]; exact Or.inl rfl
theorem lo_fst_congr (P Q : Nat → Bool) (h : ∀ u, u < 4 → P u = Q u) : lo_fst P 4 0 = lo_fst Q 4 0 := by
  rw [lo_fst_4, lo_fst_4, h 0 (by decide), h 1 (by decide), h 2 (by decide), h 3 (by decide)]
/-- around, as the component goes: d steps left, the k-th is next -/
def lo_rx (nx : Nat → Nat) (f size : Nat) : Nat → Nat → Nat → Bool
  | 0, _, _ => false
  | d + 1, k, t => if nx t = 4 then false else if nx t = f then decide (k = size) else lo_rx nx f size d (k + 1) (nx t)
/-- around, as the reference goes -/
def lo_ry (nx : Nat → Nat) (f : Nat) : Nat → Nat → Nat → Nat
  | 0, _, _ => 0
  | d + 1, k, t => if nx t = 4 then 0 else if nx t = f then k else lo_ry nx f d (k + 1) (nx t)
theorem lo_ry_ge (nx : Nat → Nat) (f : Nat) : ∀ d k t, lo_ry nx f d k t = 0 ∨ k ≤ lo_ry nx f d k t := by
  intro d
  induction d with
  | zero => intro k t; exact Or.inl rfl
  | succ d ih =>
    intro k t
    show (if nx t = 4 then 0 else if nx t = f then k else lo_ry nx f d (k + 1) (nx t)) = 0 ∨ k ≤ (if nx t = 4 then 0 else if nx t = f then k else lo_ry nx f d (k + 1) (nx t))
    by_cases h1 : nx t = 4
    · rw [if_pos h1]; exact Or.inl rfl
    · rw [if_neg h1]
      by_cases h2 : nx t = f
      · rw [if_pos h2]; exact Or.inr (Nat.le_refl _)
      · rw [if_neg h2]
        rcases ih (k + 1) (nx t) with h | h
        · exact Or.inl h
        · exact Or.inr (by omega)
theorem lo_rx_ry {nX nY : Nat → Nat} {f size : Nat} (S : Nat → Prop) (h0 : 0 < size) (he : ∀ t, S t → nX t = nY t) (hs : ∀ t, S t → nX t = 4 ∨ S (nX t)) :
    ∀ d d' k t, d ≤ d' → d + k = size + 1 → S t → lo_rx nX f size d k t = decide (lo_ry nY f d' k t = size) := by
  intro d
  induction d with
  | zero =>
    intro d' k t _ hk _
    show false = _
    symm
    apply decide_eq_false
    rcases lo_ry_ge nY f d' k t with h | h <;> omega
  | succ d ih =>
    intro d' k t hd hk hS
    cases d' with
    | zero => omega
    | succ d' =>
      show (if nX t = 4 then false else if nX t = f then decide (k = size) else lo_rx nX f size d (k + 1) (nX t)) = decide ((if nY t = 4 then 0 else if nY t = f then k else lo_ry nY f d' (k + 1) (nY t)) = size)
      rw [← he t hS]
      by_cases h1 : nX t = 4
      · rw [if_pos h1, if_pos h1]
        symm
        apply decide_eq_false
        omega
      · rw [if_neg h1, if_neg h1]
        by_cases h2 : nX t = f
        · rw [if_pos h2, if_pos h2]
        · rw [if_neg h2, if_neg h2]
          exact ih d' (k + 1) (nX t) (by omega) (by omega) ((hs t hS).resolve_left h1)
/-- a ring, as the component finds it -/
def lo_slX (r t : Nat) : Bool := decide (lo_d r t ≠ 7)
def lo_rqX (n T H : Nat → Nat) (t k : Nat) : Bool := decide (k < n t) && (decide (T (t * 8 + k) = 1) && decide (H (t * 8 + k) ≠ 0))
def lo_nX (L H : Nat → Nat) (r t : Nat) : Nat := lo_fst (fun u => decide (lo_d r u ≠ 7) && (H (u * 8 + lo_d r u)).testBit (L (t * 8 + lo_d r t))) 4 0
def lo_fX (n T H : Nat → Nat) (r k : Nat) : Option (Nat × Nat × Nat) := lo_r4 (lo_slX r) (fun t => lo_rqX n T H t (lo_d r t)) (fun t => H (t * 8 + lo_d r t)) k
def lo_rf (o : Option (Nat × Nat × Nat)) (k : Nat × Nat × Nat → Bool) : Bool :=
  match o with
  | none => false
  | some v => k v
def lo_rX (n L T H : Nat → Nat) (r : Nat) : Bool :=
  lo_rf (lo_fX n T H r 4) (fun v => decide (2 ≤ v.2.1) && lo_rx (lo_nX L H r) v.2.2 v.2.1 v.2.1 1 v.2.2)
/-- a ring, as the reference finds it -/
def lo_slY (e : Nat → Nat) (t : Nat) : Bool := decide (e t < 6)
def lo_rqY (n A : Nat → Nat) (t k : Nat) : Bool := decide (k < n t) && (decide (A (6 * t + k) < 8) && decide (lo_h A t k ≠ 0))
def lo_nY (A e : Nat → Nat) (t : Nat) : Nat := lo_lst (fun u => decide (e u < 6) && (lo_h A u (e u)).testBit (A (6 * t + e t))) 4
def lo_fY (n A e : Nat → Nat) (k : Nat) : Option (Nat × Nat × Nat) := lo_r4 (lo_slY e) (fun t => lo_rqY n A t (e t)) (fun t => lo_h A t (e t)) k
def lo_rY (n A e : Nat → Nat) : Bool :=
  lo_rf (lo_fY n A e 4) (fun v => decide (2 ≤ v.2.1) && decide (lo_ry (lo_nY A e) v.2.2 4 1 v.2.2 = v.2.1))
theorem lo_rX_no {n L T H A : Nat → Nat} (D : lo_D n L T H A) {r : Nat} (g : lo_k r = false) : lo_rX n L T H r = false := by
  obtain ⟨t, ht, e⟩ := lo_k_no g
  unfold lo_rX
  have hn : lo_fX n T H r 4 = none := by
    cases ev : lo_fX n T H r 4 with
    | none => rfl
    | some v =>
      have h1 := (lo_r4_inv _ _ _ 4 v ev).1 t ht (by unfold lo_slX; rw [e]; rfl)
      have h2 : lo_rqX n T H t (lo_d r t) = true := h1
      unfold lo_rqX at h2
      rw [Bool.and_eq_true, decide_eq_true_eq] at h2
      have h3 := D.1 t ht
      omega
  rw [hn]
  rfl
theorem lo_rX_eq {n L T H A : Nat → Nat} (D : lo_D n L T H A) {r : Nat} {e : Nat → Nat} (g : lo_k r = true) (he : ∀ t, t < 4 → e t = if lo_d r t = 7 then 6 else lo_d r t) :
    lo_rX n L T H r = lo_rY n A e := by
  obtain ⟨hn, hT, hH, hL, hT1, hHb, hA⟩ := D
  have hk := lo_k_to g
  have hsl : ∀ t, t < 4 → lo_slX r t = lo_slY e t := by
    intro t ht
    unfold lo_slX lo_slY
    apply decide_eq_decide.mpr
    have h1 := he t ht
    have h2 := hk t ht
    have h3 := lo_d_lt r t
    by_cases q : lo_d r t = 7
    · rw [if_pos q] at h1; omega
    · rw [if_neg q] at h1; omega
  have hse : ∀ t, t < 4 → lo_slX r t = true → e t = lo_d r t := by
    intro t ht hs
    unfold lo_slX at hs
    rw [decide_eq_true_eq] at hs
    rw [he t ht, if_neg hs]
  have hrq : ∀ t, t < 4 → lo_slX r t = true → lo_rqX n T H t (lo_d r t) = lo_rqY n A t (e t) := by
    intro t ht hs
    rw [hse t ht hs]
    unfold lo_rqX lo_rqY
    by_cases q : lo_d r t < n t
    · have h5 := hL (t * 8 + lo_d r t)
      rw [hH t ht (lo_d r t) (by omega)]
      rcases hT t ht (lo_d r t) q with ⟨e1, e2⟩ | ⟨e1, e2⟩
      · rw [decide_eq_true e1, decide_eq_true (show A (6 * t + lo_d r t) < 8 by omega)]
      · rw [decide_eq_false (show ¬ T (t * 8 + lo_d r t) = 1 by omega), decide_eq_false (show ¬ A (6 * t + lo_d r t) < 8 by omega)]
    · rw [decide_eq_false q, Bool.false_and, Bool.false_and]
  have hM : ∀ t, t < 4 → lo_slX r t = true → lo_rqX n T H t (lo_d r t) = true → H (t * 8 + lo_d r t) = lo_h A t (e t) := by
    intro t ht hs hr
    unfold lo_rqX at hr
    rw [Bool.and_eq_true, decide_eq_true_eq] at hr
    rw [hse t ht hs]
    exact hH t ht _ (by omega)
  have hf : lo_fX n T H r 4 = lo_fY n A e 4 := lo_r4_congr 4 hsl hrq hM
  unfold lo_rX lo_rY
  rw [← hf]
  cases ev : lo_fX n T H r 4 with
  | none => rfl
  | some v =>
    obtain ⟨i1, _, i3, i4, i5, _⟩ := lo_r4_inv _ _ _ 4 v ev
    show (decide (2 ≤ v.2.1) && lo_rx (lo_nX L H r) v.2.2 v.2.1 v.2.1 1 v.2.2) = (decide (2 ≤ v.2.1) && decide (lo_ry (lo_nY A e) v.2.2 4 1 v.2.2 = v.2.1))
    by_cases h2 : 2 ≤ v.2.1
    · have hS : ∀ t, t < 4 ∧ lo_slX r t = true → lo_nX L H r t = lo_nY A e t := by
        rintro t ⟨ht, hs⟩
        have hr : lo_rqX n T H t (lo_d r t) = true := i1 t ht hs
        have hr2 := hr
        unfold lo_rqX at hr2
        rw [Bool.and_eq_true, Bool.and_eq_true, decide_eq_true_eq, decide_eq_true_eq] at hr2
        have hA2 : A (6 * t + e t) = L (t * 8 + lo_d r t) := by
          rw [hse t ht hs]
          rcases hT t ht (lo_d r t) hr2.1 with ⟨_, e2⟩ | ⟨e1, _⟩
          · exact e2
          · omega
        unfold lo_nX lo_nY
        rw [hA2]
        have hcg : ∀ u, u < 4 → (decide (lo_d r u ≠ 7) && (H (u * 8 + lo_d r u)).testBit (L (t * 8 + lo_d r t))) = (decide (e u < 6) && (lo_h A u (e u)).testBit (L (t * 8 + lo_d r t))) := by
          intro u hu
          have h1 : decide (lo_d r u ≠ 7) = decide (e u < 6) := hsl u hu
          rw [← h1]
          cases q : decide (lo_d r u ≠ 7) with
          | false => rfl
          | true => rw [hM u hu q (i1 u hu q)]
        rw [lo_fst_congr _ _ hcg]
        refine lo_fst_lst _ (fun a b ha hb pa pb => ?_)
        have pa' : (decide (e a < 6) && (lo_h A a (e a)).testBit (L (t * 8 + lo_d r t))) = true := pa
        have pb' : (decide (e b < 6) && (lo_h A b (e b)).testBit (L (t * 8 + lo_d r t))) = true := pb
        rw [← hcg a ha, Bool.and_eq_true] at pa'
        rw [← hcg b hb, Bool.and_eq_true] at pb'
        exact i3 a b ha hb pa'.1 pb'.1 _ pa'.2 pb'.2
      have hN : ∀ t, t < 4 ∧ lo_slX r t = true → lo_nX L H r t = 4 ∨ (lo_nX L H r t < 4 ∧ lo_slX r (lo_nX L H r t) = true) := by
        rintro t _
        unfold lo_nX
        rcases lo_fst_or (fun u => decide (lo_d r u ≠ 7) && (H (u * 8 + lo_d r u)).testBit (L (t * 8 + lo_d r t))) with h | ⟨h, h'⟩
        · exact Or.inl h
        · exact Or.inr ⟨h, (Bool.and_eq_true_iff.mp h').1⟩
      rw [lo_rx_ry (fun t => t < 4 ∧ lo_slX r t = true) (by omega) hS hN v.2.1 4 1 v.2.2 i4 (by omega) (i5 (by omega))]
    · rw [decide_eq_false h2, Bool.false_and, Bool.false_and]
