/-! folds; the states that are reached, by both orders -/
def lo_F {σ : Type} (f : Nat → σ → σ) (z : σ) : Nat → σ
  | 0 => z
  | x + 1 => f x (lo_F f z x)
theorem lo_F_rel {σ τ : Type} (R : σ → τ → Prop) (fX : Nat → σ → σ) (fY : Nat → τ → τ) (zX : σ) (zY : τ) (g : Nat → Bool) (yf : Nat → Nat) (N : Nat)
    (h0 : yf 0 = 0) (hz : R zX zY)
    (hs : ∀ x, x < N → yf (x + 1) = yf x + (if g x = true then 1 else 0))
    (hg : ∀ x, x < N → g x = true → ∀ s t, R s t → R (fX x s) (fY (yf x) t))
    (hb : ∀ x, x < N → g x = false → ∀ s t, R s t → R (fX x s) t) :
    ∀ x, x ≤ N → R (lo_F fX zX x) (lo_F fY zY (yf x)) := by
  intro x
  induction x with
  | zero => intro _; rw [h0]; exact hz
  | succ x ih =>
    intro hx
    have ih' := ih (by omega)
    have e := hs x (by omega)
    cases eg : g x with
    | true =>
      rw [eg, if_pos rfl] at e
      rw [e]
      exact hg x (by omega) eg _ _ ih'
    | false =>
      rw [eg, if_neg (by decide)] at e
      rw [e]
      exact hb x (by omega) eg _ _ ih'
theorem lo_F_congr {σ : Type} (f g : Nat → σ → σ) (z : σ) (N : Nat) (h : ∀ x, x < N → ∀ s, f x s = g x s) : lo_F f z N = lo_F g z N := by
  induction N with
  | zero => rfl
  | succ N ih =>
    show f N (lo_F f z N) = g N (lo_F g z N)
    rw [ih (fun x hx => h x (by omega)), h N (by omega)]
/-- how many x below N have P -/
def lo_cf (P : Nat → Bool) (x : Nat) (s : Nat) : Nat := if P x = true then s + 1 else s
def lo_c (P : Nat → Bool) (N : Nat) : Nat := lo_F (lo_cf P) 0 N
theorem lo_c_s (P : Nat → Bool) (N : Nat) : lo_c P (N + 1) = if P N = true then lo_c P N + 1 else lo_c P N := rfl
theorem lo_c_le (P : Nat → Bool) (N : Nat) : lo_c P N ≤ N := by
  induction N with
  | zero => exact Nat.le_refl 0
  | succ N ih =>
    rw [lo_c_s]
    by_cases h : P N = true
    · rw [if_pos h]; omega
    · rw [if_neg h]; omega
theorem lo_c_congr (P Q : Nat → Bool) (N : Nat) (h : ∀ x, x < N → P x = Q x) : lo_c P N = lo_c Q N :=
  lo_F_congr _ _ _ _ (fun x hx s => by unfold lo_cf; rw [h x hx])
theorem lo_c_y (P Q : Nat → Bool) (hg : ∀ x, x < 4096 → lo_g x = true → P x = Q (lo_y x)) (hb : ∀ x, x < 4096 → lo_g x = false → P x = false) : lo_c P 4096 = lo_c Q 2401 := by
  have h := lo_F_rel (fun s t : Nat => s = t) (lo_cf P) (lo_cf Q) 0 0 lo_g lo_y 4096 lo_y_0 rfl lo_y_s
    (fun x hx gx s t e => by
      have e' : s = t := e
      subst e'
      show lo_cf P x s = lo_cf Q _ s
      unfold lo_cf
      rw [hg x hx gx])
    (fun x hx gx s t e => by
      have e' : s = t := e
      subst e'
      show lo_cf P x s = s
      unfold lo_cf
      rw [hb x hx gx, if_neg (by decide)]) 4096 (Nat.le_refl _)
  rw [lo_y_N] at h
  exact h
theorem lo_c_z (P Q : Nat → Bool) (hg : ∀ x, x < 4096 → lo_k x = true → P x = Q (lo_z x)) (hb : ∀ x, x < 4096 → lo_k x = false → P x = false) : lo_c P 4096 = lo_c Q 2401 := by
  have h := lo_F_rel (fun s t : Nat => s = t) (lo_cf P) (lo_cf Q) 0 0 lo_k lo_z 4096 lo_z_0 rfl lo_z_s
    (fun x hx gx s t e => by
      have e' : s = t := e
      subst e'
      show lo_cf P x s = lo_cf Q _ s
      unfold lo_cf
      rw [hg x hx gx])
    (fun x hx gx s t e => by
      have e' : s = t := e
      subst e'
      show lo_cf P x s = s
      unfold lo_cf
      rw [hb x hx gx, if_neg (by decide)]) 4096 (Nat.le_refl _)
  rw [lo_z_N] at h
  exact h
/-- some u from j on, d of them, has P -/
def lo_any (P : Nat → Bool) : Nat → Nat → Bool
  | 0, _ => false
  | d + 1, j => P j || lo_any P d (j + 1)
theorem lo_any_congr (P Q : Nat → Bool) : ∀ d j, (∀ u, j ≤ u → u < j + d → P u = Q u) → lo_any P d j = lo_any Q d j := by
  intro d
  induction d with
  | zero => intro j _; rfl
  | succ d ih =>
    intro j h
    show (P j || lo_any P d (j + 1)) = (Q j || lo_any Q d (j + 1))
    rw [h j (by omega) (by omega), ih (j + 1) (fun u hu hd => h u (by omega) (by omega))]
theorem lo_any_iff (P : Nat → Bool) : ∀ d j, lo_any P d j = true ↔ ∃ u, j ≤ u ∧ u < j + d ∧ P u = true := by
  intro d
  induction d with
  | zero =>
    intro j
    constructor
    · intro h; exact absurd (show false = true from h) (by decide)
    · rintro ⟨u, h1, h2, _⟩; omega
  | succ d ih =>
    intro j
    show (P j || lo_any P d (j + 1)) = true ↔ _
    rw [Bool.or_eq_true, ih (j + 1)]
    constructor
    · rintro (h | ⟨u, h1, h2, h3⟩)
      · exact ⟨j, by omega, by omega, h⟩
      · exact ⟨u, by omega, by omega, h3⟩
    · rintro ⟨u, h1, h2, h3⟩
      by_cases e : u = j
      · subst e; exact Or.inl h3
      · exact Or.inr ⟨u, by omega, by omega, h3⟩
/-- the sum of two numbers of ways -/
def lo_w (a b : Int32) : Int32 := (a + b) - (a + b) / 1000003 * 1000003
def lo_s1 (g : Nat → Nat → Bool) (p : Nat → Nat) (s t : Nat) (v : (Nat → Int32) × (Nat → Int32)) : (Nat → Int32) × (Nat → Int32) :=
  if g s t = true then (upd v.1 (s + p t) 1, upd v.2 (s + p t) (lo_w (v.2 (s + p t)) (v.2 s))) else v
def lo_s4 (g : Nat → Nat → Bool) (p : Nat → Nat) (s : Nat) (v : (Nat → Int32) × (Nat → Int32)) : (Nat → Int32) × (Nat → Int32) :=
  lo_F (lo_s1 g p s) v 4
def lo_fx (g : Nat → Nat → Bool) (p : Nat → Nat) (s : Nat) (v : (Nat → Int32) × (Nat → Int32)) : (Nat → Int32) × (Nat → Int32) :=
  if v.1 s = 0 then v else lo_s4 g p s v
def lo_ex (g : Nat → Nat → Bool) (p : Nat → Nat) (v : (Nat → Int32) × (Nat → Int32)) (N : Nat) : (Nat → Int32) × (Nat → Int32) := lo_F (lo_fx g p) v N
def lo_Rr (n : Nat → Nat) (a b : (Nat → Int32) × (Nat → Int32)) : Prop :=
  (∀ x, x < 4096 → lo_g x = true → a.1 x = b.1 (lo_y x) ∧ a.2 x = b.2 (lo_y x)) ∧
  (∀ x, x < 4096 → a.1 x = 0 ∨ (a.1 x = 1 ∧ ∀ t, t < 4 → lo_d x t ≤ n t))
theorem lo_s1_rel {n : Nat → Nat} {gX gY : Nat → Nat → Bool} (hn : ∀ t, t < 4 → n t ≤ 6) {x t : Nat} (hx : x < 4096) (gx : lo_g x = true) (ht : t < 4)
    (hd : ∀ u, u < 4 → lo_d x u ≤ n u) (he : gX x t = gY (lo_y x) t) (hl : gX x t = true → lo_d x t < n t)
    {a b : (Nat → Int32) × (Nat → Int32)} (h : lo_Rr n a b) : lo_Rr n (lo_s1 gX lo_p x t a) (lo_s1 gY lo_q (lo_y x) t b) := by
  unfold lo_s1
  rw [← he]
  cases hg : gX x t with
  | false => exact h
  | true =>
    rw [if_pos rfl, if_pos rfl]
    have hlt := hl hg
    have h6 := hn t ht
    obtain ⟨k1, k2, k3⟩ := lo_step x hx gx t ht (by omega)
    rw [← k3]
    refine ⟨fun z hz gz => ?_, fun z hz => ?_⟩
    · by_cases ez : z = x + lo_p t
      · subst ez
        refine ⟨?_, ?_⟩
        · show upd a.1 (x + lo_p t) 1 (x + lo_p t) = upd b.1 (lo_y (x + lo_p t)) 1 (lo_y (x + lo_p t))
          rw [pk_us, pk_us]
        · show upd a.2 (x + lo_p t) (lo_w (a.2 (x + lo_p t)) (a.2 x)) (x + lo_p t) = upd b.2 (lo_y (x + lo_p t)) (lo_w (b.2 (lo_y (x + lo_p t))) (b.2 (lo_y x))) (lo_y (x + lo_p t))
          rw [pk_us, pk_us, (h.1 _ k1 k2).2, (h.1 x hx gx).2]
      · have ey : lo_y z ≠ lo_y (x + lo_p t) := fun e => ez (lo_y_inj hz k1 gz k2 e)
        refine ⟨?_, ?_⟩
        · show upd a.1 (x + lo_p t) 1 z = upd b.1 (lo_y (x + lo_p t)) 1 (lo_y z)
          rw [pk_un ez, pk_un ey]
          exact (h.1 z hz gz).1
        · show upd a.2 (x + lo_p t) _ z = upd b.2 (lo_y (x + lo_p t)) _ (lo_y z)
          rw [pk_un ez, pk_un ey]
          exact (h.1 z hz gz).2
    · show upd a.1 (x + lo_p t) 1 z = 0 ∨ (upd a.1 (x + lo_p t) 1 z = 1 ∧ ∀ t, t < 4 → lo_d z t ≤ n t)
      by_cases ez : z = x + lo_p t
      · subst ez
        refine Or.inr ⟨pk_us, fun u hu => ?_⟩
        rw [lo_step_d x t u hx ht hu (by omega)]
        have h2 := hd u hu
        by_cases eu : u = t
        · subst eu; rw [if_pos rfl]; omega
        · rw [if_neg eu]; omega
      · rw [pk_un ez]
        exact h.2 z hz
theorem lo_s4_rel {n : Nat → Nat} {gX gY : Nat → Nat → Bool} (hn : ∀ t, t < 4 → n t ≤ 6) {x : Nat} (hx : x < 4096) (gx : lo_g x = true)
    (hd : ∀ u, u < 4 → lo_d x u ≤ n u) (he : ∀ t, t < 4 → gX x t = gY (lo_y x) t) (hl : ∀ t, t < 4 → gX x t = true → lo_d x t < n t)
    {a b : (Nat → Int32) × (Nat → Int32)} (h : lo_Rr n a b) : lo_Rr n (lo_s4 gX lo_p x a) (lo_s4 gY lo_q (lo_y x) b) := by
  have h0 := lo_s1_rel hn hx gx (t := 0) (by decide) hd (he 0 (by decide)) (hl 0 (by decide)) h
  have h1 := lo_s1_rel hn hx gx (t := 1) (by decide) hd (he 1 (by decide)) (hl 1 (by decide)) h0
  have h2 := lo_s1_rel hn hx gx (t := 2) (by decide) hd (he 2 (by decide)) (hl 2 (by decide)) h1
  exact lo_s1_rel hn hx gx (t := 3) (by decide) hd (he 3 (by decide)) (hl 3 (by decide)) h2
theorem lo_ex_rel {n : Nat → Nat} {gX gY : Nat → Nat → Bool} (hn : ∀ t, t < 4 → n t ≤ 6)
    (he : ∀ x, x < 4096 → lo_g x = true → (∀ u, u < 4 → lo_d x u ≤ n u) → ∀ t, t < 4 → gX x t = gY (lo_y x) t)
    (hl : ∀ x, x < 4096 → ∀ t, t < 4 → gX x t = true → lo_d x t < n t)
    {a b : (Nat → Int32) × (Nat → Int32)} (h : lo_Rr n a b) : lo_Rr n (lo_ex gX lo_p a 4096) (lo_ex gY lo_q b 2401) := by
  have hh := lo_F_rel (lo_Rr n) (lo_fx gX lo_p) (lo_fx gY lo_q) a b lo_g lo_y 4096 lo_y_0 h lo_y_s
    (fun x hx gx s t hst => by
      unfold lo_fx
      rw [← (hst.1 x hx gx).1]
      rcases hst.2 x hx with e | ⟨e, hd⟩
      · rw [if_pos e, if_pos e]; exact hst
      · have e' : ¬ s.1 x = 0 := by rw [e]; decide
        rw [if_neg e', if_neg e']
        exact lo_s4_rel hn hx gx hd (he x hx gx hd) (hl x hx) hst)
    (fun x hx gx s t hst => by
      unfold lo_fx
      rcases hst.2 x hx with e | ⟨e, hd⟩
      · rw [if_pos e]; exact hst
      · have g' : lo_g x = true := lo_g_of (fun u hu => Nat.le_trans (hd u hu) (hn u hu))
        rw [g'] at gx
        exact absurd gx (by decide)) 4096 (Nat.le_refl _)
  rw [lo_y_N] at hh
  exact hh
/-- the arrays as they stand when the walk begins -/
def lo_I0 (N : Nat) (v : (Nat → Int32) × (Nat → Int32)) : Prop := ∀ j, j < N → v.1 j = (if j = 0 then 1 else 0) ∧ v.2 j = (if j = 0 then 1 else 0)
theorem lo_I0_rel (n : Nat → Nat) {a b : (Nat → Int32) × (Nat → Int32)} (ha : lo_I0 4096 a) (hb : lo_I0 2401 b) : lo_Rr n a b := by
  refine ⟨fun x hx gx => ?_, fun x hx => ?_⟩
  · have e : x = 0 ↔ lo_y x = 0 := ⟨fun e => by rw [e]; exact lo_y_0, fun e => lo_y_inj hx (by decide) gx (by decide) (by rw [e, lo_y_0])⟩
    obtain ⟨a1, a2⟩ := ha x hx
    obtain ⟨b1, b2⟩ := hb (lo_y x) (lo_y_lt hx gx)
    rw [a1, a2, b1, b2]
    by_cases z : x = 0
    · rw [if_pos z, if_pos (e.mp z)]; exact ⟨rfl, rfl⟩
    · rw [if_neg z, if_neg (fun q => z (e.mpr q))]; exact ⟨rfl, rfl⟩
  · rw [(ha x hx).1]
    by_cases z : x = 0
    · rw [if_pos z]
      refine Or.inr ⟨rfl, ?_⟩
      subst z
      exact fun t _ => by unfold lo_d; rw [Nat.zero_div, Nat.zero_mod]; exact Nat.zero_le _
    · rw [if_neg z]; exact Or.inl rfl
