/-! the data of both sides; who may go on; stuck states -/
/-- one action more on a set of held locks (below 8: taken, else given) -/
def lo_m (m x : Nat) : Nat := if x < 8 then m ||| 2 ^ x else m &&& (31 - 2 ^ (x - 8))
/-- the locks that thread t holds after its first k actions -/
def lo_h (A : Nat → Nat) (t : Nat) : Nat → Nat
  | 0 => 0
  | k + 1 => lo_m (lo_h A t k) (A (6 * t + k))
theorem lo_h_congr (A B : Nat → Nat) (t : Nat) : ∀ k, (∀ j, j < k → A (6 * t + j) = B (6 * t + j)) → lo_h A t k = lo_h B t k := by
  intro k
  induction k with
  | zero => intro _; rfl
  | succ k ih =>
    intro h
    show lo_m (lo_h A t k) (A (6 * t + k)) = lo_m (lo_h B t k) (B (6 * t + k))
    rw [ih (fun j hj => h j (by omega)), h k (by omega)]
/-- an action's number: 0 to 4, or 8 to 12 -/
def lo_ok (x : Nat) : Prop := x < 5 ∨ (8 ≤ x ∧ x < 13)
theorem lo_m_lt {m x : Nat} (hm : m < 32) (hx : lo_ok x) : lo_m m x < 32 := by
  unfold lo_m
  rcases hx with h | h
  · rw [if_pos (by omega)]
    exact Nat.or_lt_two_pow (n := 5) hm (Nat.pow_lt_pow_right (by decide) h)
  · rw [if_neg (by omega)]
    exact Nat.lt_of_le_of_lt Nat.and_le_left hm
theorem lo_h_lt {A : Nat → Nat} (hA : ∀ j, lo_ok (A j)) (t : Nat) : ∀ k, lo_h A t k < 32 := by
  intro k
  induction k with
  | zero => exact (show (0 : Nat) < 32 by decide)
  | succ k ih => exact lo_m_lt ih (hA _)
/-- the data of the component (n, L, T, H) beside the reference's (n, A) -/
def lo_D (n L T H A : Nat → Nat) : Prop :=
  (∀ t, t < 4 → n t ≤ 6) ∧
  (∀ t, t < 4 → ∀ k, k < n t → (T (t * 8 + k) = 1 ∧ A (6 * t + k) = L (t * 8 + k)) ∨ (T (t * 8 + k) = 0 ∧ A (6 * t + k) = 8 + L (t * 8 + k))) ∧
  (∀ t, t < 4 → ∀ k, k ≤ n t → H (t * 8 + k) = lo_h A t k) ∧
  (∀ j, L j < 5) ∧ (∀ j, T j ≤ 1) ∧ (∀ j, H j < 32) ∧ (∀ j, lo_ok (A j))
def lo_gX (n L T H : Nat → Nat) (x t : Nat) : Bool :=
  decide (lo_d x t < n t) && (!decide (T (t * 8 + lo_d x t) = 1) || !lo_any (fun u => decide (u ≠ t) && (H (u * 8 + lo_d x u)).testBit (L (t * 8 + lo_d x t))) 4 0)
def lo_gY (n A : Nat → Nat) (y t : Nat) : Bool :=
  decide (lo_e y t ≠ n t) && !lo_any (fun u => decide (A (6 * t + lo_e y t) < 8) && (if u = t then 0 else lo_h A u (lo_e y u)).testBit (A (6 * t + lo_e y t))) 4 0
theorem lo_gX_lt {n L T H : Nat → Nat} {x t : Nat} (h : lo_gX n L T H x t = true) : lo_d x t < n t := by
  unfold lo_gX at h
  rw [Bool.and_eq_true, decide_eq_true_eq] at h
  exact h.1
theorem lo_go_eq {n L T H A : Nat → Nat} (D : lo_D n L T H A) {x : Nat} (hx : x < 4096) (gx : lo_g x = true) (hd : ∀ u, u < 4 → lo_d x u ≤ n u) :
    ∀ t, t < 4 → lo_gX n L T H x t = lo_gY n A (lo_y x) t := by
  obtain ⟨hn, hT, hH, hL, hT1, hHb, hA⟩ := D
  intro t ht
  unfold lo_gX lo_gY
  rw [lo_y_e hx gx t ht]
  have h1 := hd t ht
  by_cases hk : lo_d x t < n t
  · rw [decide_eq_true hk, decide_eq_true (show lo_d x t ≠ n t by omega), Bool.true_and, Bool.true_and]
    have h2 := hL (t * 8 + lo_d x t)
    rcases hT t ht (lo_d x t) hk with ⟨e1, e2⟩ | ⟨e1, e2⟩
    · rw [decide_eq_true e1, e2]
      show (false || !_) = _
      rw [Bool.false_or]
      have key : ∀ u, u < 4 → (decide (u ≠ t) && (H (u * 8 + lo_d x u)).testBit (L (t * 8 + lo_d x t))) = (decide (L (t * 8 + lo_d x t) < 8) && (if u = t then 0 else lo_h A u (lo_e (lo_y x) u)).testBit (L (t * 8 + lo_d x t))) := by
        intro u hu4
        rw [lo_y_e hx gx u hu4, hH u hu4 _ (hd u hu4), decide_eq_true (show L (t * 8 + lo_d x t) < 8 by omega), Bool.true_and]
        by_cases e : u = t
        · rw [if_pos e, Nat.zero_testBit, decide_eq_false (show ¬ (u ≠ t) from fun q => q e), Bool.false_and]
        · rw [if_neg e, decide_eq_true (show u ≠ t from e), Bool.true_and]
      exact congrArg Bool.not (lo_any_congr _ _ 4 0 (fun u _ hu => key u (by omega)))
    · rw [decide_eq_false (show ¬ T (t * 8 + lo_d x t) = 1 by omega)]
      show (true || _) = _
      rw [Bool.true_or]
      have hf : lo_any (fun u => decide (A (6 * t + lo_d x t) < 8) && (if u = t then 0 else lo_h A u (lo_e (lo_y x) u)).testBit (A (6 * t + lo_d x t))) 4 0 = lo_any (fun _ => false) 4 0 :=
        lo_any_congr _ _ 4 0 (fun u _ _ => by
          show (decide (A (6 * t + lo_d x t) < 8) && _) = false
          rw [decide_eq_false (show ¬ A (6 * t + lo_d x t) < 8 by omega), Bool.false_and])
      rw [hf]
      rfl
  · rw [decide_eq_false hk, decide_eq_false (show ¬ (lo_d x t ≠ n t) by omega), Bool.false_and, Bool.false_and]
/-- the state in which all actions are done -/
def lo_fn (n p : Nat → Nat) : Nat := n 0 * p 0 + n 1 * p 1 + n 2 * p 2 + n 3 * p 3
theorem lo_fnX {n : Nat → Nat} (hn : ∀ t, t < 4 → n t ≤ 6) : lo_fn n lo_p < 4096 ∧ ∀ t, t < 4 → lo_d (lo_fn n lo_p) t = n t := by
  have h0 := hn 0 (by decide)
  have h1 := hn 1 (by decide)
  have h2 := hn 2 (by decide)
  have h3 := hn 3 (by decide)
  obtain ⟨h, d0, d1, d2, d3⟩ := lo_dig (a := n 0) (b := n 1) (c := n 2) (d := n 3) (by omega) (by omega) (by omega) (by omega)
  have e : lo_fn n lo_p = n 0 * 512 + n 1 * 64 + n 2 * 8 + n 3 := by
    show n 0 * 512 + n 1 * 64 + n 2 * 8 + n 3 * 1 = _
    rw [Nat.mul_one]
  rw [e]
  exact ⟨h, lo_4 d0 d1 d2 d3⟩
theorem lo_fnY {n : Nat → Nat} (hn : ∀ t, t < 4 → n t ≤ 6) : lo_fn n lo_q < 2401 ∧ ∀ t, t < 4 → lo_e (lo_fn n lo_q) t = n t := by
  have h0 := hn 0 (by decide)
  have h1 := hn 1 (by decide)
  have h2 := hn 2 (by decide)
  have h3 := hn 3 (by decide)
  obtain ⟨h, d0, d1, d2, d3⟩ := lo_dig7 (a := n 0) (b := n 1) (c := n 2) (d := n 3) (by omega) (by omega) (by omega) (by omega)
  have e : lo_fn n lo_q = n 0 * 343 + n 1 * 49 + n 2 * 7 + n 3 := by
    show n 0 * 343 + n 1 * 49 + n 2 * 7 + n 3 * 1 = _
    rw [Nat.mul_one]
  rw [e]
  exact ⟨h, lo_4 d0 d1 d2 d3⟩
theorem lo_fn_g {n : Nat → Nat} (hn : ∀ t, t < 4 → n t ≤ 6) : lo_g (lo_fn n lo_p) = true := lo_g_of (fun t ht => by rw [(lo_fnX hn).2 t ht]; exact hn t ht)
theorem lo_fn_y {n : Nat → Nat} (hn : ∀ t, t < 4 → n t ≤ 6) : lo_y (lo_fn n lo_p) = lo_fn n lo_q :=
  lo_e_inj (lo_y_lt (lo_fnX hn).1 (lo_fn_g hn)) (lo_fnY hn).1 (fun t ht => by rw [lo_y_e (lo_fnX hn).1 (lo_fn_g hn) t ht, (lo_fnX hn).2 t ht, (lo_fnY hn).2 t ht])
def lo_sk (R : Nat → Int32) (g : Nat → Nat → Bool) (f s : Nat) : Bool := decide (R s ≠ 0) && (decide (s ≠ f) && !lo_any (fun t => g s t) 4 0)
section
variable {n L T H A : Nat → Nat} {a b : (Nat → Int32) × (Nat → Int32)}
theorem lo_R0 (D : lo_D n L T H A) (h : lo_Rr n a b) {x : Nat} (hx : x < 4096) (gx : lo_g x = false) : a.1 x = 0 := by
  rcases h.2 x hx with e | ⟨_, hd⟩
  · exact e
  · have g' : lo_g x = true := lo_g_of (fun u hu => Nat.le_trans (hd u hu) (D.1 u hu))
    rw [g'] at gx
    exact absurd gx (by decide)
theorem lo_Rg (D : lo_D n L T H A) (h : lo_Rr n a b) {x : Nat} (hx : x < 4096) (hr : a.1 x ≠ 0) : lo_g x = true ∧ ∀ u, u < 4 → lo_d x u ≤ n u := by
  rcases h.2 x hx with e | ⟨_, hd⟩
  · exact absurd e hr
  · exact ⟨lo_g_of (fun u hu => Nat.le_trans (hd u hu) (D.1 u hu)), hd⟩
theorem lo_sk_eq (D : lo_D n L T H A) (h : lo_Rr n a b) {x : Nat} (hx : x < 4096) (gx : lo_g x = true) :
    lo_sk a.1 (lo_gX n L T H) (lo_fn n lo_p) x = lo_sk b.1 (lo_gY n A) (lo_fn n lo_q) (lo_y x) := by
  unfold lo_sk
  rw [← (h.1 x hx gx).1]
  by_cases hr : a.1 x = 0
  · rw [decide_eq_false (show ¬ (a.1 x ≠ 0) from fun q => q hr), Bool.false_and, Bool.false_and]
  · have hd := (lo_Rg D h hx hr).2
    have e1 : lo_any (fun t => lo_gX n L T H x t) 4 0 = lo_any (fun t => lo_gY n A (lo_y x) t) 4 0 :=
      lo_any_congr _ _ 4 0 (fun u _ hu => lo_go_eq D hx gx hd u (by omega))
    rw [e1]
    have e2 : decide (x ≠ lo_fn n lo_p) = decide (lo_y x ≠ lo_fn n lo_q) := by
      apply decide_eq_decide.mpr
      rw [← lo_fn_y D.1]
      exact ⟨fun q e => q (lo_y_inj hx (lo_fnX D.1).1 gx (lo_fn_g D.1) e), fun q e => q (by rw [e])⟩
    rw [e2]
theorem lo_sk_no (D : lo_D n L T H A) (h : lo_Rr n a b) {x : Nat} (hx : x < 4096) (gx : lo_g x = false) :
    lo_sk a.1 (lo_gX n L T H) (lo_fn n lo_p) x = false := by
  unfold lo_sk
  rw [decide_eq_false (show ¬ (a.1 x ≠ 0) from fun q => q (lo_R0 D h hx gx)), Bool.false_and]
theorem lo_go_rel (D : lo_D n L T H A) (ha : lo_I0 4096 a) (hb : lo_I0 2401 b) : lo_Rr n (lo_ex (lo_gX n L T H) lo_p a 4096) (lo_ex (lo_gY n A) lo_q b 2401) :=
  lo_ex_rel D.1 (fun x hx gx hd t ht => lo_go_eq D hx gx hd t ht) (fun x _ t _ e => lo_gX_lt e) (lo_I0_rel n ha hb)
end
/-- the state found first: P holds, and i of its kind lie below it -/
def lo_ff (P : Nat → Bool) (V : Nat → Int32) (i : Int32) (x : Nat) (o : Option Int32) : Option Int32 :=
  match o with
  | some r => some r
  | none => if P x = true then (if nI (lo_c P x) = i then some (V x) else none) else none
def lo_fo (P : Nat → Bool) (V : Nat → Int32) (i : Int32) (N : Nat) : Option Int32 := lo_F (lo_ff P V i) none N
theorem lo_fo_some (P : Nat → Bool) (V : Nat → Int32) (i : Int32) {x : Nat} {r : Int32} (h : lo_fo P V i x = some r) : ∀ N, x ≤ N → lo_fo P V i N = some r := by
  intro N hN
  induction N with
  | zero =>
    have e : x = 0 := by omega
    rw [← e]; exact h
  | succ N ih =>
    by_cases e : x = N + 1
    · rw [← e]; exact h
    · have h2 := ih (by omega)
      show lo_ff P V i N (lo_fo P V i N) = some r
      rw [h2]
      rfl
theorem lo_fo_y (P Q : Nat → Bool) (V U : Nat → Int32) (i : Int32) (hg : ∀ x, x < 4096 → lo_g x = true → P x = Q (lo_y x)) (hb : ∀ x, x < 4096 → lo_g x = false → P x = false)
    (hv : ∀ x, x < 4096 → lo_g x = true → V x = U (lo_y x)) : lo_fo P V i 4096 = lo_fo Q U i 2401 := by
  have hc : ∀ x, x ≤ 4096 → lo_c P x = lo_c Q (lo_y x) :=
    lo_F_rel (fun s t : Nat => s = t) (lo_cf P) (lo_cf Q) 0 0 lo_g lo_y 4096 lo_y_0 rfl lo_y_s
      (fun x hx gx s t e => by
        have e' : s = t := e
        subst e'
        show lo_cf P x s = lo_cf Q _ s
        unfold lo_cf
        rw [hg x hx gx])
      (fun x hx gx s t e => by
        have e' : s = t := e
        subst e'
        show lo_cf P x s = s
        unfold lo_cf
        rw [hb x hx gx, if_neg (by decide)])
  have h := lo_F_rel (fun s t : Option Int32 => s = t) (lo_ff P V i) (lo_ff Q U i) none none lo_g lo_y 4096 lo_y_0 rfl lo_y_s
    (fun x hx gx s t e => by
      have e' : s = t := e
      subst e'
      show lo_ff P V i x s = lo_ff Q U i (lo_y x) s
      unfold lo_ff
      rw [hg x hx gx, hv x hx gx, hc x (by omega)])
    (fun x hx gx s t e => by
      have e' : s = t := e
      subst e'
      show lo_ff P V i x s = s
      cases s with
      | some r => rfl
      | none =>
        show (if P x = true then _ else none) = none
        rw [hb x hx gx, if_neg (by decide)]) 4096 (Nat.le_refl _)
  rw [lo_y_N] at h
  exact h
