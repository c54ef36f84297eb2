/-! digits of a state: base 8 (component), base 7 (reference), and the walk of one order beside the other -/
def lo_p : Nat → Nat
  | 0 => 512
  | 1 => 64
  | 2 => 8
  | _ => 1
def lo_q : Nat → Nat
  | 0 => 343
  | 1 => 49
  | 2 => 7
  | _ => 1
def lo_d (x t : Nat) : Nat := x / lo_p t % 8
def lo_e (y t : Nat) : Nat := y / lo_q t % 7
theorem lo_d0 (x : Nat) : lo_d x 0 = x / 512 % 8 := rfl
theorem lo_d1 (x : Nat) : lo_d x 1 = x / 64 % 8 := rfl
theorem lo_d2 (x : Nat) : lo_d x 2 = x / 8 % 8 := rfl
theorem lo_d3 (x : Nat) : lo_d x 3 = x % 8 := by
  show x / 1 % 8 = x % 8
  rw [Nat.div_one]
theorem lo_e0 (x : Nat) : lo_e x 0 = x / 343 % 7 := rfl
theorem lo_e1 (x : Nat) : lo_e x 1 = x / 49 % 7 := rfl
theorem lo_e2 (x : Nat) : lo_e x 2 = x / 7 % 7 := rfl
theorem lo_e3 (x : Nat) : lo_e x 3 = x % 7 := by
  show x / 1 % 7 = x % 7
  rw [Nat.div_one]
theorem lo_p0 : lo_p 0 = 512 := rfl
theorem lo_p1 : lo_p 1 = 64 := rfl
theorem lo_p2 : lo_p 2 = 8 := rfl
theorem lo_p3 : lo_p 3 = 1 := rfl
theorem lo_q0 : lo_q 0 = 343 := rfl
theorem lo_q1 : lo_q 1 = 49 := rfl
theorem lo_q2 : lo_q 2 = 7 := rfl
theorem lo_q3 : lo_q 3 = 1 := rfl
theorem lo_d_lt (x t : Nat) : lo_d x t < 8 := Nat.mod_lt _ (by decide)
theorem lo_e_lt (x t : Nat) : lo_e x t < 7 := Nat.mod_lt _ (by decide)
theorem lo_4 {P : Nat → Prop} (h0 : P 0) (h1 : P 1) (h2 : P 2) (h3 : P 3) : ∀ t, t < 4 → P t := by
  intro t ht
  have h : t = 0 ∨ t = 1 ∨ t = 2 ∨ t = 3 := by omega
  rcases h with rfl | rfl | rfl | rfl
  · exact h0
  · exact h1
  · exact h2
  · exact h3
/-- good states: no digit 7 -/
def lo_g (x : Nat) : Bool := decide (x / 512 % 8 < 7) && decide (x / 64 % 8 < 7) && decide (x / 8 % 8 < 7) && decide (x % 8 < 7)
/-- how many good states lie below x -/
def lo_y (x : Nat) : Nat :=
  if 7 ≤ x / 512 then 2401 else 343 * (x / 512) + (if x / 64 % 8 = 7 then 343 else 49 * (x / 64 % 8) + (if x / 8 % 8 = 7 then 49 else 7 * (x / 8 % 8) + x % 8))
/-- good sets: no digit 6 -/
def lo_k (x : Nat) : Bool := decide (x / 512 % 8 ≠ 6) && decide (x / 64 % 8 ≠ 6) && decide (x / 8 % 8 ≠ 6) && decide (x % 8 ≠ 6)
def lo_m7 (k : Nat) : Nat := if k ≤ 6 then k else k - 1
/-- how many good sets lie below x -/
def lo_z (x : Nat) : Nat :=
  343 * lo_m7 (x / 512) + (if x / 512 = 6 then 0 else 49 * lo_m7 (x / 64 % 8) + (if x / 64 % 8 = 6 then 0 else 7 * lo_m7 (x / 8 % 8) + (if x / 8 % 8 = 6 then 0 else lo_m7 (x % 8))))
theorem lo_y_0 : lo_y 0 = 0 := by decide
theorem lo_z_0 : lo_z 0 = 0 := by decide
theorem lo_y_N : lo_y 4096 = 2401 := by decide
theorem lo_z_N : lo_z 4096 = 2401 := by decide
set_option maxRecDepth 100000 in
theorem lo_y_s : ∀ x, x < 4096 → lo_y (x + 1) = lo_y x + (if lo_g x = true then 1 else 0) := by decide +kernel
set_option maxRecDepth 100000 in
theorem lo_z_s : ∀ x, x < 4096 → lo_z (x + 1) = lo_z x + (if lo_k x = true then 1 else 0) := by decide +kernel
theorem lo_g_of {x : Nat} (h : ∀ t, t < 4 → lo_d x t ≤ 6) : lo_g x = true := by
  have h0 := h 0 (by decide)
  have h1 := h 1 (by decide)
  have h2 := h 2 (by decide)
  have h3 := h 3 (by decide)
  rw [lo_d0] at h0
  rw [lo_d1] at h1
  rw [lo_d2] at h2
  rw [lo_d3] at h3
  simp only [lo_g, Bool.and_eq_true, decide_eq_true_eq]
  omega
theorem lo_g_to {x : Nat} (g : lo_g x = true) : x / 512 % 8 < 7 ∧ x / 64 % 8 < 7 ∧ x / 8 % 8 < 7 ∧ x % 8 < 7 := by
  simp only [lo_g, Bool.and_eq_true, decide_eq_true_eq] at g
  omega
theorem lo_k_of {x : Nat} (h : ∀ t, t < 4 → lo_d x t ≠ 6) : lo_k x = true := by
  have h0 := h 0 (by decide)
  have h1 := h 1 (by decide)
  have h2 := h 2 (by decide)
  have h3 := h 3 (by decide)
  rw [lo_d0] at h0
  rw [lo_d1] at h1
  rw [lo_d2] at h2
  rw [lo_d3] at h3
  simp only [lo_k, Bool.and_eq_true, decide_eq_true_eq]
  exact ⟨⟨⟨h0, h1⟩, h2⟩, h3⟩
theorem lo_k_to {x : Nat} (g : lo_k x = true) : ∀ t, t < 4 → lo_d x t ≠ 6 := by
  simp only [lo_k, Bool.and_eq_true, decide_eq_true_eq] at g
  obtain ⟨⟨⟨a, b⟩, c⟩, d⟩ := g
  refine lo_4 ?_ ?_ ?_ ?_
  · rw [lo_d0]; exact a
  · rw [lo_d1]; exact b
  · rw [lo_d2]; exact c
  · rw [lo_d3]; exact d
theorem lo_k_no {x : Nat} (g : lo_k x = false) : ∃ t, t < 4 ∧ lo_d x t = 6 := by
  apply Classical.byContradiction
  intro hn
  have : lo_k x = true := lo_k_of (fun t ht e => hn ⟨t, ht, e⟩)
  rw [this] at g
  exact absurd g (by decide)
theorem lo_y_eq {x : Nat} (hx : x < 4096) (g : lo_g x = true) : lo_y x = (x / 512 % 8) * 343 + (x / 64 % 8) * 49 + (x / 8 % 8) * 7 + x % 8 := by
  have := lo_g_to g
  unfold lo_y
  rw [if_neg (by omega), if_neg (by omega), if_neg (by omega)]
  omega
/-- four digits -/
theorem lo_dig {a b c d : Nat} (ha : a < 8) (hb : b < 8) (hc : c < 8) (hd : d < 8) :
    a * 512 + b * 64 + c * 8 + d < 4096 ∧ lo_d (a * 512 + b * 64 + c * 8 + d) 0 = a ∧ lo_d (a * 512 + b * 64 + c * 8 + d) 1 = b ∧ lo_d (a * 512 + b * 64 + c * 8 + d) 2 = c ∧ lo_d (a * 512 + b * 64 + c * 8 + d) 3 = d := by
  rw [lo_d0, lo_d1, lo_d2, lo_d3]
  refine ⟨?_, ?_, ?_, ?_, ?_⟩ <;> omega
theorem lo_dig7 {a b c d : Nat} (ha : a < 7) (hb : b < 7) (hc : c < 7) (hd : d < 7) :
    a * 343 + b * 49 + c * 7 + d < 2401 ∧ lo_e (a * 343 + b * 49 + c * 7 + d) 0 = a ∧ lo_e (a * 343 + b * 49 + c * 7 + d) 1 = b ∧ lo_e (a * 343 + b * 49 + c * 7 + d) 2 = c ∧ lo_e (a * 343 + b * 49 + c * 7 + d) 3 = d := by
  rw [lo_e0, lo_e1, lo_e2, lo_e3]
  refine ⟨?_, ?_, ?_, ?_, ?_⟩ <;> omega
theorem lo_y_lt {x : Nat} (hx : x < 4096) (g : lo_g x = true) : lo_y x < 2401 := by
  obtain ⟨a, b, c, d⟩ := lo_g_to g
  rw [lo_y_eq hx g]
  exact (lo_dig7 a b c d).1
theorem lo_y_e {x : Nat} (hx : x < 4096) (g : lo_g x = true) : ∀ t, t < 4 → lo_e (lo_y x) t = lo_d x t := by
  obtain ⟨a, b, c, d⟩ := lo_g_to g
  obtain ⟨_, h0, h1, h2, h3⟩ := lo_dig7 a b c d
  rw [lo_y_eq hx g]
  refine lo_4 ?_ ?_ ?_ ?_
  · rw [h0, lo_d0]
  · rw [h1, lo_d1]
  · rw [h2, lo_d2]
  · rw [h3, lo_d3]
theorem lo_d_inj {x z : Nat} (hx : x < 4096) (hz : z < 4096) (h : ∀ t, t < 4 → lo_d x t = lo_d z t) : x = z := by
  have h0 := h 0 (by decide)
  have h1 := h 1 (by decide)
  have h2 := h 2 (by decide)
  have h3 := h 3 (by decide)
  rw [lo_d0, lo_d0] at h0
  rw [lo_d1, lo_d1] at h1
  rw [lo_d2, lo_d2] at h2
  rw [lo_d3, lo_d3] at h3
  omega
theorem lo_e_inj {x z : Nat} (hx : x < 2401) (hz : z < 2401) (h : ∀ t, t < 4 → lo_e x t = lo_e z t) : x = z := by
  have h0 := h 0 (by decide)
  have h1 := h 1 (by decide)
  have h2 := h 2 (by decide)
  have h3 := h 3 (by decide)
  rw [lo_e0, lo_e0] at h0
  rw [lo_e1, lo_e1] at h1
  rw [lo_e2, lo_e2] at h2
  rw [lo_e3, lo_e3] at h3
  omega
theorem lo_y_inj {x z : Nat} (hx : x < 4096) (hz : z < 4096) (gx : lo_g x = true) (gz : lo_g z = true) (e : lo_y x = lo_y z) : x = z :=
  lo_d_inj hx hz (fun t ht => by rw [← lo_y_e hx gx t ht, ← lo_y_e hz gz t ht, e])
/-- the state with given digits -/
theorem lo_mk (f : Nat → Nat) (hf : ∀ t, t < 4 → f t < 8) : ∃ x, x < 4096 ∧ x = f 0 * 512 + f 1 * 64 + f 2 * 8 + f 3 ∧ ∀ t, t < 4 → lo_d x t = f t := by
  obtain ⟨h, h0, h1, h2, h3⟩ := lo_dig (hf 0 (by decide)) (hf 1 (by decide)) (hf 2 (by decide)) (hf 3 (by decide))
  exact ⟨_, h, rfl, lo_4 h0 h1 h2 h3⟩
theorem lo_y_sur {y : Nat} (hy : y < 2401) : ∃ x, x < 4096 ∧ lo_g x = true ∧ lo_y x = y := by
  obtain ⟨x, hx, _, hd⟩ := lo_mk (fun t => lo_e y t) (fun t _ => Nat.lt_trans (lo_e_lt y t) (by decide))
  have g : lo_g x = true := lo_g_of (fun t ht => by have := lo_e_lt y t; rw [hd t ht]; omega)
  exact ⟨x, hx, g, lo_e_inj (lo_y_lt hx g) hy (fun t ht => by rw [lo_y_e hx g t ht, hd t ht])⟩
theorem lo_z_eq {x : Nat} (hx : x < 4096) (g : lo_k x = true) : lo_z x = lo_m7 (lo_d x 0) * 343 + lo_m7 (lo_d x 1) * 49 + lo_m7 (lo_d x 2) * 7 + lo_m7 (lo_d x 3) := by
  have h0 := lo_k_to g 0 (by decide)
  have h1 := lo_k_to g 1 (by decide)
  have h2 := lo_k_to g 2 (by decide)
  have h3 := lo_k_to g 3 (by decide)
  rw [lo_d0] at h0
  rw [lo_d1] at h1
  rw [lo_d2] at h2
  rw [lo_d3] at h3
  rw [lo_d0, lo_d1, lo_d2, lo_d3]
  have e : x / 512 % 8 = x / 512 := Nat.mod_eq_of_lt (by omega)
  rw [e] at h0
  rw [e]
  unfold lo_z
  rw [if_neg h0, if_neg h1, if_neg h2]
  omega
theorem lo_m7_lt {k : Nat} (h : k < 8) : lo_m7 k < 7 := by
  unfold lo_m7
  by_cases e : k ≤ 6
  · rw [if_pos e]; omega
  · rw [if_neg e]; omega
theorem lo_m7_eq {k : Nat} (h : k < 8) : lo_m7 k = if k = 7 then 6 else k := by
  unfold lo_m7
  by_cases e : k ≤ 6
  · rw [if_pos e, if_neg (by omega)]
  · rw [if_neg e, if_pos (by omega)]; omega
theorem lo_z_lt {x : Nat} (hx : x < 4096) (g : lo_k x = true) : lo_z x < 2401 := by
  rw [lo_z_eq hx g]
  exact (lo_dig7 (lo_m7_lt (lo_d_lt x 0)) (lo_m7_lt (lo_d_lt x 1)) (lo_m7_lt (lo_d_lt x 2)) (lo_m7_lt (lo_d_lt x 3))).1
theorem lo_z_e {x : Nat} (hx : x < 4096) (g : lo_k x = true) : ∀ t, t < 4 → lo_e (lo_z x) t = if lo_d x t = 7 then 6 else lo_d x t := by
  obtain ⟨_, h0, h1, h2, h3⟩ := lo_dig7 (lo_m7_lt (lo_d_lt x 0)) (lo_m7_lt (lo_d_lt x 1)) (lo_m7_lt (lo_d_lt x 2)) (lo_m7_lt (lo_d_lt x 3))
  rw [lo_z_eq hx g]
  refine lo_4 ?_ ?_ ?_ ?_
  · rw [h0, lo_m7_eq (lo_d_lt x 0)]
  · rw [h1, lo_m7_eq (lo_d_lt x 1)]
  · rw [h2, lo_m7_eq (lo_d_lt x 2)]
  · rw [h3, lo_m7_eq (lo_d_lt x 3)]
/-- one action more -/
theorem lo_step_d (x t u : Nat) (hx : x < 4096) (ht : t < 4) (hu : u < 4) (h : lo_d x t < 7) : lo_d (x + lo_p t) u = lo_d x u + (if u = t then 1 else 0) := by
  have ht' : t = 0 ∨ t = 1 ∨ t = 2 ∨ t = 3 := by omega
  have hu' : u = 0 ∨ u = 1 ∨ u = 2 ∨ u = 3 := by omega
  rcases ht' with rfl | rfl | rfl | rfl <;> rcases hu' with rfl | rfl | rfl | rfl <;> (first | rw [if_pos rfl] | rw [if_neg (by decide)]) <;> simp only [lo_d0, lo_d1, lo_d2, lo_d3, lo_p0, lo_p1, lo_p2, lo_p3] at h ⊢ <;> omega
theorem lo_step (x : Nat) (hx : x < 4096) (g : lo_g x = true) (t : Nat) (ht : t < 4) (h : lo_d x t < 6) :
    x + lo_p t < 4096 ∧ lo_g (x + lo_p t) = true ∧ lo_y (x + lo_p t) = lo_y x + lo_q t := by
  have hg := lo_g_to g
  have hlt : x + lo_p t < 4096 := by
    have ht' : t = 0 ∨ t = 1 ∨ t = 2 ∨ t = 3 := by omega
    rcases ht' with rfl | rfl | rfl | rfl <;> simp only [lo_d0, lo_d1, lo_d2, lo_d3, lo_p0, lo_p1, lo_p2, lo_p3] at h ⊢ <;> omega
  have hg2 : lo_g (x + lo_p t) = true := lo_g_of (fun u hu => by
    rw [lo_step_d x t u hx ht hu (by omega)]
    have h4 : lo_d x u ≤ 6 := by
      have hu' : u = 0 ∨ u = 1 ∨ u = 2 ∨ u = 3 := by omega
      rcases hu' with rfl | rfl | rfl | rfl
      · rw [lo_d0]; omega
      · rw [lo_d1]; omega
      · rw [lo_d2]; omega
      · rw [lo_d3]; omega
    by_cases e : u = t
    · subst e; rw [if_pos rfl]; omega
    · rw [if_neg e]; omega)
  refine ⟨hlt, hg2, ?_⟩
  rw [lo_y_eq hlt hg2, lo_y_eq hx g]
  have ht' : t = 0 ∨ t = 1 ∨ t = 2 ∨ t = 3 := by omega
  rcases ht' with rfl | rfl | rfl | rfl <;> simp only [lo_d0, lo_d1, lo_d2, lo_d3, lo_p0, lo_p1, lo_p2, lo_p3, lo_q0, lo_q1, lo_q2, lo_q3] at h hlt ⊢ <;> omega
