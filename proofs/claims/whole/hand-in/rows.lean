section
/-! rows of kit/rows, pasted -/
theorem pk_us {f : Nat → Int32} {k : Nat} {x : Int32} : upd f k x k = x := if_pos rfl
theorem pk_un {f : Nat → Int32} {k j : Nat} {x : Int32} (h : j ≠ k) : upd f k x j = f j := if_neg h
theorem pk_sub {a b : Nat} (h : b ≤ a) : nI a - nI b = nI (a - b) := by
  obtain ⟨c, rfl⟩ : ∃ c, a = c + b := ⟨a - b, by omega⟩
  rw [← nI_add, Int32.add_sub_cancel, Nat.add_sub_cancel]
theorem pk_m1 (n : Nat) : nI (n + 1) + (-1) = nI n := by
  rw [← nI_1, Int32.add_assoc, show (1 : Int32) + (-1) = 0 from rfl, Int32.add_zero]
theorem pk_mul (a b : Nat) : nI a * nI b = nI (a * b) := (Int32.ofNat_mul a b).symm
theorem pk_div {a d : Nat} (ha : a < 2 ^ 31) (h0 : 0 < d) (hd : d < 2 ^ 31) : nI a / nI d = nI (a / d) := by
  apply Int32.toInt_inj.mp
  rw [lg_idiv_nonneg (by rw [nI_toInt ha]; omega) (by rw [nI_toInt hd]; omega), nI_toInt ha, nI_toInt hd, nI_toInt (Nat.lt_of_le_of_lt (Nat.div_le_self a d) ha)]
  first | rfl | exact (Int.natCast_ediv _ _).symm
theorem pk_rem {a d : Nat} (ha : a < 2 ^ 31) (h0 : 0 < d) (hd : d < 2 ^ 31) : nI a - nI a / nI d * nI d = nI (a % d) := by
  rw [pk_div ha h0 hd, pk_mul, pk_sub (Nat.div_mul_le_self a d)]
  exact congrArg nI (by have := Nat.div_add_mod' a d; omega)
theorem pk_ix (x : Int32) {n : Nat} (hn : n < 2 ^ 31) : x < 0 ∨ nI n ≤ x ∨ ∃ j : Nat, j < n ∧ x = nI j := by
  by_cases h : x < 0
  · exact Or.inl h
  · obtain ⟨j, hj, rfl⟩ := nI_of h
    by_cases h2 : j < n
    · exact Or.inr (Or.inr ⟨j, h2, rfl⟩)
    · exact Or.inr (Or.inl (nI_le (by omega) hj))
theorem pk_le {x y : Int32} {A B : Prop} (a b : Nat) (f : a ≤ b → A) (g : b < a → B) (hx : x = nI a := by rfl) (hy : y = nI b := by rfl) (ha : a < 2 ^ 31 := by omega) (hb : b < 2 ^ 31 := by omega) : (x ≤ y → A) ∧ (¬ x ≤ y → B) := by
  subst hx hy
  rw [nI_leI ha hb]
  exact ⟨f, fun z => g (by omega)⟩
theorem pk_lt {x y : Int32} {A B : Prop} (a b : Nat) (f : a < b → A) (g : b ≤ a → B) (hx : x = nI a := by rfl) (hy : y = nI b := by rfl) (ha : a < 2 ^ 31 := by omega) (hb : b < 2 ^ 31 := by omega) : (x < y → A) ∧ (¬ x < y → B) := by
  subst hx hy
  rw [nI_ltI ha hb]
  exact ⟨f, fun z => g (by omega)⟩
theorem pk_eq {x y : Int32} {A B : Prop} (a b : Nat) (f : a = b → A) (g : a ≠ b → B) (hx : x = nI a := by rfl) (hy : y = nI b := by rfl) (ha : a < 2 ^ 31 := by omega) (hb : b < 2 ^ 31 := by omega) : (x = y → A) ∧ (¬ x = y → B) := by
  subst hx hy
  rw [nI_eq ha hb]
  exact ⟨f, g⟩
theorem pk_in {x : Int32} (n N : Nat) (h : n < N) (hx : x = nI n := by rfl) (hN : N < 2 ^ 31 := by omega) : vp_in x N := by
  subst hx
  exact vp_in_nI h hN
theorem pk_cl {x : Int32} (n : Nat) (hx : x = nI n := by rfl) (h : n < 2 ^ 31 := by omega) : x.toNatClampNeg = n := by
  subst hx
  exact nI_clamp h
theorem pk_tn {n : Nat} (h : n < 2 ^ 32) : (nI n).toBitVec.toNat = n := Nat.mod_eq_of_lt h
theorem pk_and (x : Int32) {m : Int32} (k : Nat) (hm : m.toBitVec.toNat = 2 ^ k - 1) : x &&& m = nI (x.toBitVec.toNat % 2 ^ k) := by
  apply Int32.toBitVec_inj.mp
  apply BitVec.eq_of_toNat_eq
  rw [Int32.toBitVec_and, BitVec.toNat_and, hm, Nat.and_two_pow_sub_one_eq_mod]
  show _ = (BitVec.ofNat 32 _).toNat
  rw [BitVec.toNat_ofNat]
  exact (Nat.mod_eq_of_lt (Nat.lt_of_le_of_lt (Nat.mod_le _ _) x.toBitVec.isLt)).symm
theorem pk_andN {n : Nat} (h : n < 2 ^ 32) {m : Int32} (k : Nat) (hm : m.toBitVec.toNat = 2 ^ k - 1) : nI n &&& m = nI (n % 2 ^ k) := by
  rw [pk_and _ k hm, pk_tn h]
theorem pk_shl (a s : Int32) (k : Nat) (hs : (s.toBitVec.smod 32).toNat = k) : (a <<< s).toBitVec.toNat = a.toBitVec.toNat * 2 ^ k % 2 ^ 32 := by
  show (a.toBitVec <<< (s.toBitVec.smod 32).toNat).toNat = _
  rw [hs, BitVec.toNat_shiftLeft, Nat.shiftLeft_eq]
theorem pk_shlN {n : Nat} (s : Int32) (k : Nat) (hs : (s.toBitVec.smod 32).toNat = k) (h : n * 2 ^ k < 2 ^ 32) : nI n <<< s = nI (n * 2 ^ k) := by
  apply Int32.toBitVec_inj.mp
  apply BitVec.eq_of_toNat_eq
  have hn : n < 2 ^ 32 := Nat.lt_of_le_of_lt (Nat.le_mul_of_pos_right n (Nat.two_pow_pos k)) h
  rw [pk_shl _ _ k hs, pk_tn hn, pk_tn h, Nat.mod_eq_of_lt h]
theorem pk_shr (a s : Int32) (k : Nat) (hs : (s.toBitVec.smod 32).toNat = k) : (a >>> s).toInt = a.toInt >>> k := by
  show (a.toBitVec.sshiftRight (s.toBitVec.smod 32).toNat).toInt = _
  rw [hs, BitVec.toInt_sshiftRight]
  rfl
theorem pk_shrN {n : Nat} (h : n < 2 ^ 31) (s : Int32) (k : Nat) (hs : (s.toBitVec.smod 32).toNat = k) : nI n >>> s = nI (n / 2 ^ k) := by
  apply Int32.toInt_inj.mp
  have h2 : n / 2 ^ k ≤ n := Nat.div_le_self _ _
  rw [pk_shr _ _ k hs, nI_toInt h, nI_toInt (by omega), Int.shiftRight_eq_div_pow]
  rfl
end
section
/-! digits of a state: base 8 (component), base 7 (reference), and the walk of one order beside the other -/
def lo_p : Nat → Nat
  | 0 => 512
  | 1 => 64
  | 2 => 8
  | _ => 1
def lo_q : Nat → Nat
  | 0 => 343
  | 1 => 49
  | 2 => 7
  | _ => 1
def lo_d (x t : Nat) : Nat := x / lo_p t % 8
def lo_e (y t : Nat) : Nat := y / lo_q t % 7
theorem lo_d0 (x : Nat) : lo_d x 0 = x / 512 % 8 := rfl
theorem lo_d1 (x : Nat) : lo_d x 1 = x / 64 % 8 := rfl
theorem lo_d2 (x : Nat) : lo_d x 2 = x / 8 % 8 := rfl
theorem lo_d3 (x : Nat) : lo_d x 3 = x % 8 := by
  show x / 1 % 8 = x % 8
  rw [Nat.div_one]
theorem lo_e0 (x : Nat) : lo_e x 0 = x / 343 % 7 := rfl
theorem lo_e1 (x : Nat) : lo_e x 1 = x / 49 % 7 := rfl
theorem lo_e2 (x : Nat) : lo_e x 2 = x / 7 % 7 := rfl
theorem lo_e3 (x : Nat) : lo_e x 3 = x % 7 := by
  show x / 1 % 7 = x % 7
  rw [Nat.div_one]
theorem lo_p0 : lo_p 0 = 512 := rfl
theorem lo_p1 : lo_p 1 = 64 := rfl
theorem lo_p2 : lo_p 2 = 8 := rfl
theorem lo_p3 : lo_p 3 = 1 := rfl
theorem lo_q0 : lo_q 0 = 343 := rfl
theorem lo_q1 : lo_q 1 = 49 := rfl
theorem lo_q2 : lo_q 2 = 7 := rfl
theorem lo_q3 : lo_q 3 = 1 := rfl
theorem lo_d_lt (x t : Nat) : lo_d x t < 8 := Nat.mod_lt _ (by decide)
theorem lo_e_lt (x t : Nat) : lo_e x t < 7 := Nat.mod_lt _ (by decide)
theorem lo_4 {P : Nat → Prop} (h0 : P 0) (h1 : P 1) (h2 : P 2) (h3 : P 3) : ∀ t, t < 4 → P t := by
  intro t ht
  have h : t = 0 ∨ t = 1 ∨ t = 2 ∨ t = 3 := by omega
  rcases h with rfl | rfl | rfl | rfl
  · exact h0
  · exact h1
  · exact h2
  · exact h3
/-- good states: no digit 7 -/
def lo_g (x : Nat) : Bool := decide (x / 512 % 8 < 7) && decide (x / 64 % 8 < 7) && decide (x / 8 % 8 < 7) && decide (x % 8 < 7)
/-- how many good states lie below x -/
def lo_y (x : Nat) : Nat :=
  if 7 ≤ x / 512 then 2401 else 343 * (x / 512) + (if x / 64 % 8 = 7 then 343 else 49 * (x / 64 % 8) + (if x / 8 % 8 = 7 then 49 else 7 * (x / 8 % 8) + x % 8))
/-- good sets: no digit 6 -/
def lo_k (x : Nat) : Bool := decide (x / 512 % 8 ≠ 6) && decide (x / 64 % 8 ≠ 6) && decide (x / 8 % 8 ≠ 6) && decide (x % 8 ≠ 6)
def lo_m7 (k : Nat) : Nat := if k ≤ 6 then k else k - 1
/-- how many good sets lie below x -/
def lo_z (x : Nat) : Nat :=
  343 * lo_m7 (x / 512) + (if x / 512 = 6 then 0 else 49 * lo_m7 (x / 64 % 8) + (if x / 64 % 8 = 6 then 0 else 7 * lo_m7 (x / 8 % 8) + (if x / 8 % 8 = 6 then 0 else lo_m7 (x % 8))))
theorem lo_y_0 : lo_y 0 = 0 := by decide
theorem lo_z_0 : lo_z 0 = 0 := by decide
theorem lo_y_N : lo_y 4096 = 2401 := by decide
theorem lo_z_N : lo_z 4096 = 2401 := by decide
set_option maxRecDepth 100000 in
theorem lo_y_s : ∀ x, x < 4096 → lo_y (x + 1) = lo_y x + (if lo_g x = true then 1 else 0) := by decide +kernel
set_option maxRecDepth 100000 in
theorem lo_z_s : ∀ x, x < 4096 → lo_z (x + 1) = lo_z x + (if lo_k x = true then 1 else 0) := by decide +kernel
theorem lo_g_of {x : Nat} (h : ∀ t, t < 4 → lo_d x t ≤ 6) : lo_g x = true := by
  have h0 := h 0 (by decide)
  have h1 := h 1 (by decide)
  have h2 := h 2 (by decide)
  have h3 := h 3 (by decide)
  rw [lo_d0] at h0
  rw [lo_d1] at h1
  rw [lo_d2] at h2
  rw [lo_d3] at h3
  simp only [lo_g, Bool.and_eq_true, decide_eq_true_eq]
  omega
theorem lo_g_to {x : Nat} (g : lo_g x = true) : x / 512 % 8 < 7 ∧ x / 64 % 8 < 7 ∧ x / 8 % 8 < 7 ∧ x % 8 < 7 := by
  simp only [lo_g, Bool.and_eq_true, decide_eq_true_eq] at g
  omega
theorem lo_k_of {x : Nat} (h : ∀ t, t < 4 → lo_d x t ≠ 6) : lo_k x = true := by
  have h0 := h 0 (by decide)
  have h1 := h 1 (by decide)
  have h2 := h 2 (by decide)
  have h3 := h 3 (by decide)
  rw [lo_d0] at h0
  rw [lo_d1] at h1
  rw [lo_d2] at h2
  rw [lo_d3] at h3
  simp only [lo_k, Bool.and_eq_true, decide_eq_true_eq]
  exact ⟨⟨⟨h0, h1⟩, h2⟩, h3⟩
theorem lo_k_to {x : Nat} (g : lo_k x = true) : ∀ t, t < 4 → lo_d x t ≠ 6 := by
  simp only [lo_k, Bool.and_eq_true, decide_eq_true_eq] at g
  obtain ⟨⟨⟨a, b⟩, c⟩, d⟩ := g
  refine lo_4 ?_ ?_ ?_ ?_
  · rw [lo_d0]; exact a
  · rw [lo_d1]; exact b
  · rw [lo_d2]; exact c
  · rw [lo_d3]; exact d
theorem lo_k_no {x : Nat} (g : lo_k x = false) : ∃ t, t < 4 ∧ lo_d x t = 6 := by
  apply Classical.byContradiction
  intro hn
  have : lo_k x = true := lo_k_of (fun t ht e => hn ⟨t, ht, e⟩)
  rw [this] at g
  exact absurd g (by decide)
theorem lo_y_eq {x : Nat} (hx : x < 4096) (g : lo_g x = true) : lo_y x = (x / 512 % 8) * 343 + (x / 64 % 8) * 49 + (x / 8 % 8) * 7 + x % 8 := by
  have := lo_g_to g
  unfold lo_y
  rw [if_neg (by omega), if_neg (by omega), if_neg (by omega)]
  omega
/-- four digits -/
theorem lo_dig {a b c d : Nat} (ha : a < 8) (hb : b < 8) (hc : c < 8) (hd : d < 8) :
    a * 512 + b * 64 + c * 8 + d < 4096 ∧ lo_d (a * 512 + b * 64 + c * 8 + d) 0 = a ∧ lo_d (a * 512 + b * 64 + c * 8 + d) 1 = b ∧ lo_d (a * 512 + b * 64 + c * 8 + d) 2 = c ∧ lo_d (a * 512 + b * 64 + c * 8 + d) 3 = d := by
  rw [lo_d0, lo_d1, lo_d2, lo_d3]
  refine ⟨?_, ?_, ?_, ?_, ?_⟩ <;> omega
theorem lo_dig7 {a b c d : Nat} (ha : a < 7) (hb : b < 7) (hc : c < 7) (hd : d < 7) :
    a * 343 + b * 49 + c * 7 + d < 2401 ∧ lo_e (a * 343 + b * 49 + c * 7 + d) 0 = a ∧ lo_e (a * 343 + b * 49 + c * 7 + d) 1 = b ∧ lo_e (a * 343 + b * 49 + c * 7 + d) 2 = c ∧ lo_e (a * 343 + b * 49 + c * 7 + d) 3 = d := by
  rw [lo_e0, lo_e1, lo_e2, lo_e3]
  refine ⟨?_, ?_, ?_, ?_, ?_⟩ <;> omega
theorem lo_y_lt {x : Nat} (hx : x < 4096) (g : lo_g x = true) : lo_y x < 2401 := by
  obtain ⟨a, b, c, d⟩ := lo_g_to g
  rw [lo_y_eq hx g]
  exact (lo_dig7 a b c d).1
theorem lo_y_e {x : Nat} (hx : x < 4096) (g : lo_g x = true) : ∀ t, t < 4 → lo_e (lo_y x) t = lo_d x t := by
  obtain ⟨a, b, c, d⟩ := lo_g_to g
  obtain ⟨_, h0, h1, h2, h3⟩ := lo_dig7 a b c d
  rw [lo_y_eq hx g]
  refine lo_4 ?_ ?_ ?_ ?_
  · rw [h0, lo_d0]
  · rw [h1, lo_d1]
  · rw [h2, lo_d2]
  · rw [h3, lo_d3]
theorem lo_d_inj {x z : Nat} (hx : x < 4096) (hz : z < 4096) (h : ∀ t, t < 4 → lo_d x t = lo_d z t) : x = z := by
  have h0 := h 0 (by decide)
  have h1 := h 1 (by decide)
  have h2 := h 2 (by decide)
  have h3 := h 3 (by decide)
  rw [lo_d0, lo_d0] at h0
  rw [lo_d1, lo_d1] at h1
  rw [lo_d2, lo_d2] at h2
  rw [lo_d3, lo_d3] at h3
  omega
theorem lo_e_inj {x z : Nat} (hx : x < 2401) (hz : z < 2401) (h : ∀ t, t < 4 → lo_e x t = lo_e z t) : x = z := by
  have h0 := h 0 (by decide)
  have h1 := h 1 (by decide)
  have h2 := h 2 (by decide)
  have h3 := h 3 (by decide)
  rw [lo_e0, lo_e0] at h0
  rw [lo_e1, lo_e1] at h1
  rw [lo_e2, lo_e2] at h2
  rw [lo_e3, lo_e3] at h3
  omega
theorem lo_y_inj {x z : Nat} (hx : x < 4096) (hz : z < 4096) (gx : lo_g x = true) (gz : lo_g z = true) (e : lo_y x = lo_y z) : x = z :=
  lo_d_inj hx hz (fun t ht => by rw [← lo_y_e hx gx t ht, ← lo_y_e hz gz t ht, e])
/-- the state with given digits -/
theorem lo_mk (f : Nat → Nat) (hf : ∀ t, t < 4 → f t < 8) : ∃ x, x < 4096 ∧ x = f 0 * 512 + f 1 * 64 + f 2 * 8 + f 3 ∧ ∀ t, t < 4 → lo_d x t = f t := by
  obtain ⟨h, h0, h1, h2, h3⟩ := lo_dig (hf 0 (by decide)) (hf 1 (by decide)) (hf 2 (by decide)) (hf 3 (by decide))
  exact ⟨_, h, rfl, lo_4 h0 h1 h2 h3⟩
theorem lo_y_sur {y : Nat} (hy : y < 2401) : ∃ x, x < 4096 ∧ lo_g x = true ∧ lo_y x = y := by
  obtain ⟨x, hx, _, hd⟩ := lo_mk (fun t => lo_e y t) (fun t _ => Nat.lt_trans (lo_e_lt y t) (by decide))
  have g : lo_g x = true := lo_g_of (fun t ht => by have := lo_e_lt y t; rw [hd t ht]; omega)
  exact ⟨x, hx, g, lo_e_inj (lo_y_lt hx g) hy (fun t ht => by rw [lo_y_e hx g t ht, hd t ht])⟩
theorem lo_z_eq {x : Nat} (hx : x < 4096) (g : lo_k x = true) : lo_z x = lo_m7 (lo_d x 0) * 343 + lo_m7 (lo_d x 1) * 49 + lo_m7 (lo_d x 2) * 7 + lo_m7 (lo_d x 3) := by
  have h0 := lo_k_to g 0 (by decide)
  have h1 := lo_k_to g 1 (by decide)
  have h2 := lo_k_to g 2 (by decide)
  have h3 := lo_k_to g 3 (by decide)
  rw [lo_d0] at h0
  rw [lo_d1] at h1
  rw [lo_d2] at h2
  rw [lo_d3] at h3
  rw [lo_d0, lo_d1, lo_d2, lo_d3]
  have e : x / 512 % 8 = x / 512 := Nat.mod_eq_of_lt (by omega)
  rw [e] at h0
  rw [e]
  unfold lo_z
  rw [if_neg h0, if_neg h1, if_neg h2]
  omega
theorem lo_m7_lt {k : Nat} (h : k < 8) : lo_m7 k < 7 := by
  unfold lo_m7
  by_cases e : k ≤ 6
  · rw [if_pos e]; omega
  · rw [if_neg e]; omega
theorem lo_m7_eq {k : Nat} (h : k < 8) : lo_m7 k = if k = 7 then 6 else k := by
  unfold lo_m7
  by_cases e : k ≤ 6
  · rw [if_pos e, if_neg (by omega)]
  · rw [if_neg e, if_pos (by omega)]; omega
theorem lo_z_lt {x : Nat} (hx : x < 4096) (g : lo_k x = true) : lo_z x < 2401 := by
  rw [lo_z_eq hx g]
  exact (lo_dig7 (lo_m7_lt (lo_d_lt x 0)) (lo_m7_lt (lo_d_lt x 1)) (lo_m7_lt (lo_d_lt x 2)) (lo_m7_lt (lo_d_lt x 3))).1
theorem lo_z_e {x : Nat} (hx : x < 4096) (g : lo_k x = true) : ∀ t, t < 4 → lo_e (lo_z x) t = if lo_d x t = 7 then 6 else lo_d x t := by
  obtain ⟨_, h0, h1, h2, h3⟩ := lo_dig7 (lo_m7_lt (lo_d_lt x 0)) (lo_m7_lt (lo_d_lt x 1)) (lo_m7_lt (lo_d_lt x 2)) (lo_m7_lt (lo_d_lt x 3))
  rw [lo_z_eq hx g]
  refine lo_4 ?_ ?_ ?_ ?_
  · rw [h0, lo_m7_eq (lo_d_lt x 0)]
  · rw [h1, lo_m7_eq (lo_d_lt x 1)]
  · rw [h2, lo_m7_eq (lo_d_lt x 2)]
  · rw [h3, lo_m7_eq (lo_d_lt x 3)]
/-- one action more -/
theorem lo_step_d (x t u : Nat) (hx : x < 4096) (ht : t < 4) (hu : u < 4) (h : lo_d x t < 7) : lo_d (x + lo_p t) u = lo_d x u + (if u = t then 1 else 0) := by
  have ht' : t = 0 ∨ t = 1 ∨ t = 2 ∨ t = 3 := by omega
  have hu' : u = 0 ∨ u = 1 ∨ u = 2 ∨ u = 3 := by omega
  rcases ht' with rfl | rfl | rfl | rfl <;> rcases hu' with rfl | rfl | rfl | rfl <;> (first | rw [if_pos rfl] | rw [if_neg (by decide)]) <;> simp only [lo_d0, lo_d1, lo_d2, lo_d3, lo_p0, lo_p1, lo_p2, lo_p3] at h ⊢ <;> omega
theorem lo_step (x : Nat) (hx : x < 4096) (g : lo_g x = true) (t : Nat) (ht : t < 4) (h : lo_d x t < 6) :
    x + lo_p t < 4096 ∧ lo_g (x + lo_p t) = true ∧ lo_y (x + lo_p t) = lo_y x + lo_q t := by
  have hg := lo_g_to g
  have hlt : x + lo_p t < 4096 := by
    have ht' : t = 0 ∨ t = 1 ∨ t = 2 ∨ t = 3 := by omega
    rcases ht' with rfl | rfl | rfl | rfl <;> simp only [lo_d0, lo_d1, lo_d2, lo_d3, lo_p0, lo_p1, lo_p2, lo_p3] at h ⊢ <;> omega
  have hg2 : lo_g (x + lo_p t) = true := lo_g_of (fun u hu => by
    rw [lo_step_d x t u hx ht hu (by omega)]
    have h4 : lo_d x u ≤ 6 := by
      have hu' : u = 0 ∨ u = 1 ∨ u = 2 ∨ u = 3 := by omega
      rcases hu' with rfl | rfl | rfl | rfl
      · rw [lo_d0]; omega
      · rw [lo_d1]; omega
      · rw [lo_d2]; omega
      · rw [lo_d3]; omega
    by_cases e : u = t
    · subst e; rw [if_pos rfl]; omega
    · rw [if_neg e]; omega)
  refine ⟨hlt, hg2, ?_⟩
  rw [lo_y_eq hlt hg2, lo_y_eq hx g]
  have ht' : t = 0 ∨ t = 1 ∨ t = 2 ∨ t = 3 := by omega
  rcases ht' with rfl | rfl | rfl | rfl <;> simp only [lo_d0, lo_d1, lo_d2, lo_d3, lo_p0, lo_p1, lo_p2, lo_p3, lo_q0, lo_q1, lo_q2, lo_q3] at h hlt ⊢ <;> omega
end
section
/-! folds; the states that are reached, by both orders -/
def lo_F {σ : Type} (f : Nat → σ → σ) (z : σ) : Nat → σ
  | 0 => z
  | x + 1 => f x (lo_F f z x)
theorem lo_F_rel {σ τ : Type} (R : σ → τ → Prop) (fX : Nat → σ → σ) (fY : Nat → τ → τ) (zX : σ) (zY : τ) (g : Nat → Bool) (yf : Nat → Nat) (N : Nat)
    (h0 : yf 0 = 0) (hz : R zX zY)
    (hs : ∀ x, x < N → yf (x + 1) = yf x + (if g x = true then 1 else 0))
    (hg : ∀ x, x < N → g x = true → ∀ s t, R s t → R (fX x s) (fY (yf x) t))
    (hb : ∀ x, x < N → g x = false → ∀ s t, R s t → R (fX x s) t) :
    ∀ x, x ≤ N → R (lo_F fX zX x) (lo_F fY zY (yf x)) := by
  intro x
  induction x with
  | zero => intro _; rw [h0]; exact hz
  | succ x ih =>
    intro hx
    have ih' := ih (by omega)
    have e := hs x (by omega)
    cases eg : g x with
    | true =>
      rw [eg, if_pos rfl] at e
      rw [e]
      exact hg x (by omega) eg _ _ ih'
    | false =>
      rw [eg, if_neg (by decide)] at e
      rw [e]
      exact hb x (by omega) eg _ _ ih'
theorem lo_F_congr {σ : Type} (f g : Nat → σ → σ) (z : σ) (N : Nat) (h : ∀ x, x < N → ∀ s, f x s = g x s) : lo_F f z N = lo_F g z N := by
  induction N with
  | zero => rfl
  | succ N ih =>
    show f N (lo_F f z N) = g N (lo_F g z N)
    rw [ih (fun x hx => h x (by omega)), h N (by omega)]
/-- how many x below N have P -/
def lo_cf (P : Nat → Bool) (x : Nat) (s : Nat) : Nat := if P x = true then s + 1 else s
def lo_c (P : Nat → Bool) (N : Nat) : Nat := lo_F (lo_cf P) 0 N
theorem lo_c_s (P : Nat → Bool) (N : Nat) : lo_c P (N + 1) = if P N = true then lo_c P N + 1 else lo_c P N := rfl
theorem lo_c_le (P : Nat → Bool) (N : Nat) : lo_c P N ≤ N := by
  induction N with
  | zero => exact Nat.le_refl 0
  | succ N ih =>
    rw [lo_c_s]
    by_cases h : P N = true
    · rw [if_pos h]; omega
    · rw [if_neg h]; omega
theorem lo_c_congr (P Q : Nat → Bool) (N : Nat) (h : ∀ x, x < N → P x = Q x) : lo_c P N = lo_c Q N :=
  lo_F_congr _ _ _ _ (fun x hx s => by unfold lo_cf; rw [h x hx])
theorem lo_c_y (P Q : Nat → Bool) (hg : ∀ x, x < 4096 → lo_g x = true → P x = Q (lo_y x)) (hb : ∀ x, x < 4096 → lo_g x = false → P x = false) : lo_c P 4096 = lo_c Q 2401 := by
  have h := lo_F_rel (fun s t : Nat => s = t) (lo_cf P) (lo_cf Q) 0 0 lo_g lo_y 4096 lo_y_0 rfl lo_y_s
    (fun x hx gx s t e => by
      have e' : s = t := e
      subst e'
      show lo_cf P x s = lo_cf Q _ s
      unfold lo_cf
      rw [hg x hx gx])
    (fun x hx gx s t e => by
      have e' : s = t := e
      subst e'
      show lo_cf P x s = s
      unfold lo_cf
      rw [hb x hx gx, if_neg (by decide)]) 4096 (Nat.le_refl _)
  rw [lo_y_N] at h
  exact h
theorem lo_c_z (P Q : Nat → Bool) (hg : ∀ x, x < 4096 → lo_k x = true → P x = Q (lo_z x)) (hb : ∀ x, x < 4096 → lo_k x = false → P x = false) : lo_c P 4096 = lo_c Q 2401 := by
  have h := lo_F_rel (fun s t : Nat => s = t) (lo_cf P) (lo_cf Q) 0 0 lo_k lo_z 4096 lo_z_0 rfl lo_z_s
    (fun x hx gx s t e => by
      have e' : s = t := e
      subst e'
      show lo_cf P x s = lo_cf Q _ s
      unfold lo_cf
      rw [hg x hx gx])
    (fun x hx gx s t e => by
      have e' : s = t := e
      subst e'
      show lo_cf P x s = s
      unfold lo_cf
      rw [hb x hx gx, if_neg (by decide)]) 4096 (Nat.le_refl _)
  rw [lo_z_N] at h
  exact h
/-- some u from j on, d of them, has P -/
def lo_any (P : Nat → Bool) : Nat → Nat → Bool
  | 0, _ => false
  | d + 1, j => P j || lo_any P d (j + 1)
theorem lo_any_congr (P Q : Nat → Bool) : ∀ d j, (∀ u, j ≤ u → u < j + d → P u = Q u) → lo_any P d j = lo_any Q d j := by
  intro d
  induction d with
  | zero => intro j _; rfl
  | succ d ih =>
    intro j h
    show (P j || lo_any P d (j + 1)) = (Q j || lo_any Q d (j + 1))
    rw [h j (by omega) (by omega), ih (j + 1) (fun u hu hd => h u (by omega) (by omega))]
theorem lo_any_iff (P : Nat → Bool) : ∀ d j, lo_any P d j = true ↔ ∃ u, j ≤ u ∧ u < j + d ∧ P u = true := by
  intro d
  induction d with
  | zero =>
    intro j
    constructor
    · intro h; exact absurd (show false = true from h) (by decide)
    · rintro ⟨u, h1, h2, _⟩; omega
  | succ d ih =>
    intro j
    show (P j || lo_any P d (j + 1)) = true ↔ _
    rw [Bool.or_eq_true, ih (j + 1)]
    constructor
    · rintro (h | ⟨u, h1, h2, h3⟩)
      · exact ⟨j, by omega, by omega, h⟩
      · exact ⟨u, by omega, by omega, h3⟩
    · rintro ⟨u, h1, h2, h3⟩
      by_cases e : u = j
      · subst e; exact Or.inl h3
      · exact Or.inr ⟨u, by omega, by omega, h3⟩
/-- the sum of two numbers of ways -/
def lo_w (a b : Int32) : Int32 := (a + b) - (a + b) / 1000003 * 1000003
def lo_s1 (g : Nat → Nat → Bool) (p : Nat → Nat) (s t : Nat) (v : (Nat → Int32) × (Nat → Int32)) : (Nat → Int32) × (Nat → Int32) :=
  if g s t = true then (upd v.1 (s + p t) 1, upd v.2 (s + p t) (lo_w (v.2 (s + p t)) (v.2 s))) else v
def lo_s4 (g : Nat → Nat → Bool) (p : Nat → Nat) (s : Nat) (v : (Nat → Int32) × (Nat → Int32)) : (Nat → Int32) × (Nat → Int32) :=
  lo_F (lo_s1 g p s) v 4
def lo_fx (g : Nat → Nat → Bool) (p : Nat → Nat) (s : Nat) (v : (Nat → Int32) × (Nat → Int32)) : (Nat → Int32) × (Nat → Int32) :=
  if v.1 s = 0 then v else lo_s4 g p s v
def lo_ex (g : Nat → Nat → Bool) (p : Nat → Nat) (v : (Nat → Int32) × (Nat → Int32)) (N : Nat) : (Nat → Int32) × (Nat → Int32) := lo_F (lo_fx g p) v N
def lo_Rr (n : Nat → Nat) (a b : (Nat → Int32) × (Nat → Int32)) : Prop :=
  (∀ x, x < 4096 → lo_g x = true → a.1 x = b.1 (lo_y x) ∧ a.2 x = b.2 (lo_y x)) ∧
  (∀ x, x < 4096 → a.1 x = 0 ∨ (a.1 x = 1 ∧ ∀ t, t < 4 → lo_d x t ≤ n t))
theorem lo_s1_rel {n : Nat → Nat} {gX gY : Nat → Nat → Bool} (hn : ∀ t, t < 4 → n t ≤ 6) {x t : Nat} (hx : x < 4096) (gx : lo_g x = true) (ht : t < 4)
    (hd : ∀ u, u < 4 → lo_d x u ≤ n u) (he : gX x t = gY (lo_y x) t) (hl : gX x t = true → lo_d x t < n t)
    {a b : (Nat → Int32) × (Nat → Int32)} (h : lo_Rr n a b) : lo_Rr n (lo_s1 gX lo_p x t a) (lo_s1 gY lo_q (lo_y x) t b) := by
  unfold lo_s1
  rw [← he]
  cases hg : gX x t with
  | false => exact h
  | true =>
    rw [if_pos rfl, if_pos rfl]
    have hlt := hl hg
    have h6 := hn t ht
    obtain ⟨k1, k2, k3⟩ := lo_step x hx gx t ht (by omega)
    rw [← k3]
    refine ⟨fun z hz gz => ?_, fun z hz => ?_⟩
    · by_cases ez : z = x + lo_p t
      · subst ez
        refine ⟨?_, ?_⟩
        · show upd a.1 (x + lo_p t) 1 (x + lo_p t) = upd b.1 (lo_y (x + lo_p t)) 1 (lo_y (x + lo_p t))
          rw [pk_us, pk_us]
        · show upd a.2 (x + lo_p t) (lo_w (a.2 (x + lo_p t)) (a.2 x)) (x + lo_p t) = upd b.2 (lo_y (x + lo_p t)) (lo_w (b.2 (lo_y (x + lo_p t))) (b.2 (lo_y x))) (lo_y (x + lo_p t))
          rw [pk_us, pk_us, (h.1 _ k1 k2).2, (h.1 x hx gx).2]
      · have ey : lo_y z ≠ lo_y (x + lo_p t) := fun e => ez (lo_y_inj hz k1 gz k2 e)
        refine ⟨?_, ?_⟩
        · show upd a.1 (x + lo_p t) 1 z = upd b.1 (lo_y (x + lo_p t)) 1 (lo_y z)
          rw [pk_un ez, pk_un ey]
          exact (h.1 z hz gz).1
        · show upd a.2 (x + lo_p t) _ z = upd b.2 (lo_y (x + lo_p t)) _ (lo_y z)
          rw [pk_un ez, pk_un ey]
          exact (h.1 z hz gz).2
    · show upd a.1 (x + lo_p t) 1 z = 0 ∨ (upd a.1 (x + lo_p t) 1 z = 1 ∧ ∀ t, t < 4 → lo_d z t ≤ n t)
      by_cases ez : z = x + lo_p t
      · subst ez
        refine Or.inr ⟨pk_us, fun u hu => ?_⟩
        rw [lo_step_d x t u hx ht hu (by omega)]
        have h2 := hd u hu
        by_cases eu : u = t
        · subst eu; rw [if_pos rfl]; omega
        · rw [if_neg eu]; omega
      · rw [pk_un ez]
        exact h.2 z hz
theorem lo_s4_rel {n : Nat → Nat} {gX gY : Nat → Nat → Bool} (hn : ∀ t, t < 4 → n t ≤ 6) {x : Nat} (hx : x < 4096) (gx : lo_g x = true)
    (hd : ∀ u, u < 4 → lo_d x u ≤ n u) (he : ∀ t, t < 4 → gX x t = gY (lo_y x) t) (hl : ∀ t, t < 4 → gX x t = true → lo_d x t < n t)
    {a b : (Nat → Int32) × (Nat → Int32)} (h : lo_Rr n a b) : lo_Rr n (lo_s4 gX lo_p x a) (lo_s4 gY lo_q (lo_y x) b) := by
  have h0 := lo_s1_rel hn hx gx (t := 0) (by decide) hd (he 0 (by decide)) (hl 0 (by decide)) h
  have h1 := lo_s1_rel hn hx gx (t := 1) (by decide) hd (he 1 (by decide)) (hl 1 (by decide)) h0
  have h2 := lo_s1_rel hn hx gx (t := 2) (by decide) hd (he 2 (by decide)) (hl 2 (by decide)) h1
  exact lo_s1_rel hn hx gx (t := 3) (by decide) hd (he 3 (by decide)) (hl 3 (by decide)) h2
theorem lo_ex_rel {n : Nat → Nat} {gX gY : Nat → Nat → Bool} (hn : ∀ t, t < 4 → n t ≤ 6)
    (he : ∀ x, x < 4096 → lo_g x = true → (∀ u, u < 4 → lo_d x u ≤ n u) → ∀ t, t < 4 → gX x t = gY (lo_y x) t)
    (hl : ∀ x, x < 4096 → ∀ t, t < 4 → gX x t = true → lo_d x t < n t)
    {a b : (Nat → Int32) × (Nat → Int32)} (h : lo_Rr n a b) : lo_Rr n (lo_ex gX lo_p a 4096) (lo_ex gY lo_q b 2401) := by
  have hh := lo_F_rel (lo_Rr n) (lo_fx gX lo_p) (lo_fx gY lo_q) a b lo_g lo_y 4096 lo_y_0 h lo_y_s
    (fun x hx gx s t hst => by
      unfold lo_fx
      rw [← (hst.1 x hx gx).1]
      rcases hst.2 x hx with e | ⟨e, hd⟩
      · rw [if_pos e, if_pos e]; exact hst
      · have e' : ¬ s.1 x = 0 := by rw [e]; decide
        rw [if_neg e', if_neg e']
        exact lo_s4_rel hn hx gx hd (he x hx gx hd) (hl x hx) hst)
    (fun x hx gx s t hst => by
      unfold lo_fx
      rcases hst.2 x hx with e | ⟨e, hd⟩
      · rw [if_pos e]; exact hst
      · have g' : lo_g x = true := lo_g_of (fun u hu => Nat.le_trans (hd u hu) (hn u hu))
        rw [g'] at gx
        exact absurd gx (by decide)) 4096 (Nat.le_refl _)
  rw [lo_y_N] at hh
  exact hh
/-- the arrays as they stand when the walk begins -/
def lo_I0 (N : Nat) (v : (Nat → Int32) × (Nat → Int32)) : Prop := ∀ j, j < N → v.1 j = (if j = 0 then 1 else 0) ∧ v.2 j = (if j = 0 then 1 else 0)
theorem lo_I0_rel (n : Nat → Nat) {a b : (Nat → Int32) × (Nat → Int32)} (ha : lo_I0 4096 a) (hb : lo_I0 2401 b) : lo_Rr n a b := by
  refine ⟨fun x hx gx => ?_, fun x hx => ?_⟩
  · have e : x = 0 ↔ lo_y x = 0 := ⟨fun e => by rw [e]; exact lo_y_0, fun e => lo_y_inj hx (by decide) gx (by decide) (by rw [e, lo_y_0])⟩
    obtain ⟨a1, a2⟩ := ha x hx
    obtain ⟨b1, b2⟩ := hb (lo_y x) (lo_y_lt hx gx)
    rw [a1, a2, b1, b2]
    by_cases z : x = 0
    · rw [if_pos z, if_pos (e.mp z)]; exact ⟨rfl, rfl⟩
    · rw [if_neg z, if_neg (fun q => z (e.mpr q))]; exact ⟨rfl, rfl⟩
  · rw [(ha x hx).1]
    by_cases z : x = 0
    · rw [if_pos z]
      refine Or.inr ⟨rfl, ?_⟩
      subst z
      exact fun t _ => by unfold lo_d; rw [Nat.zero_div, Nat.zero_mod]; exact Nat.zero_le _
    · rw [if_neg z]; exact Or.inl rfl
end
section
/-! the data of both sides; who may go on; stuck states -/
/-- one action more on a set of held locks (below 8: taken, else given) -/
def lo_m (m x : Nat) : Nat := if x < 8 then m ||| 2 ^ x else m &&& (31 - 2 ^ (x - 8))
/-- the locks that thread t holds after its first k actions -/
def lo_h (A : Nat → Nat) (t : Nat) : Nat → Nat
  | 0 => 0
  | k + 1 => lo_m (lo_h A t k) (A (6 * t + k))
theorem lo_h_congr (A B : Nat → Nat) (t : Nat) : ∀ k, (∀ j, j < k → A (6 * t + j) = B (6 * t + j)) → lo_h A t k = lo_h B t k := by
  intro k
  induction k with
  | zero => intro _; rfl
  | succ k ih =>
    intro h
    show lo_m (lo_h A t k) (A (6 * t + k)) = lo_m (lo_h B t k) (B (6 * t + k))
    rw [ih (fun j hj => h j (by omega)), h k (by omega)]
/-- an action's number: 0 to 4, or 8 to 12 -/
def lo_ok (x : Nat) : Prop := x < 5 ∨ (8 ≤ x ∧ x < 13)
theorem lo_m_lt {m x : Nat} (hm : m < 32) (hx : lo_ok x) : lo_m m x < 32 := by
  unfold lo_m
  rcases hx with h | h
  · rw [if_pos (by omega)]
    exact Nat.or_lt_two_pow (n := 5) hm (Nat.pow_lt_pow_right (by decide) h)
  · rw [if_neg (by omega)]
    exact Nat.lt_of_le_of_lt Nat.and_le_left hm
theorem lo_h_lt {A : Nat → Nat} (hA : ∀ j, lo_ok (A j)) (t : Nat) : ∀ k, lo_h A t k < 32 := by
  intro k
  induction k with
  | zero => exact (show (0 : Nat) < 32 by decide)
  | succ k ih => exact lo_m_lt ih (hA _)
/-- the data of the component (n, L, T, H) beside the reference's (n, A) -/
def lo_D (n L T H A : Nat → Nat) : Prop :=
  (∀ t, t < 4 → n t ≤ 6) ∧
  (∀ t, t < 4 → ∀ k, k < n t → (T (t * 8 + k) = 1 ∧ A (6 * t + k) = L (t * 8 + k)) ∨ (T (t * 8 + k) = 0 ∧ A (6 * t + k) = 8 + L (t * 8 + k))) ∧
  (∀ t, t < 4 → ∀ k, k ≤ n t → H (t * 8 + k) = lo_h A t k) ∧
  (∀ j, L j < 5) ∧ (∀ j, T j ≤ 1) ∧ (∀ j, H j < 32) ∧ (∀ j, lo_ok (A j))
def lo_gX (n L T H : Nat → Nat) (x t : Nat) : Bool :=
  decide (lo_d x t < n t) && (!decide (T (t * 8 + lo_d x t) = 1) || !lo_any (fun u => decide (u ≠ t) && (H (u * 8 + lo_d x u)).testBit (L (t * 8 + lo_d x t))) 4 0)
def lo_gY (n A : Nat → Nat) (y t : Nat) : Bool :=
  decide (lo_e y t ≠ n t) && !lo_any (fun u => decide (A (6 * t + lo_e y t) < 8) && (if u = t then 0 else lo_h A u (lo_e y u)).testBit (A (6 * t + lo_e y t))) 4 0
theorem lo_gX_lt {n L T H : Nat → Nat} {x t : Nat} (h : lo_gX n L T H x t = true) : lo_d x t < n t := by
  unfold lo_gX at h
  rw [Bool.and_eq_true, decide_eq_true_eq] at h
  exact h.1
theorem lo_go_eq {n L T H A : Nat → Nat} (D : lo_D n L T H A) {x : Nat} (hx : x < 4096) (gx : lo_g x = true) (hd : ∀ u, u < 4 → lo_d x u ≤ n u) :
    ∀ t, t < 4 → lo_gX n L T H x t = lo_gY n A (lo_y x) t := by
  obtain ⟨hn, hT, hH, hL, hT1, hHb, hA⟩ := D
  intro t ht
  unfold lo_gX lo_gY
  rw [lo_y_e hx gx t ht]
  have h1 := hd t ht
  by_cases hk : lo_d x t < n t
  · rw [decide_eq_true hk, decide_eq_true (show lo_d x t ≠ n t by omega), Bool.true_and, Bool.true_and]
    have h2 := hL (t * 8 + lo_d x t)
    rcases hT t ht (lo_d x t) hk with ⟨e1, e2⟩ | ⟨e1, e2⟩
    · rw [decide_eq_true e1, e2]
      show (false || !_) = _
      rw [Bool.false_or]
      have key : ∀ u, u < 4 → (decide (u ≠ t) && (H (u * 8 + lo_d x u)).testBit (L (t * 8 + lo_d x t))) = (decide (L (t * 8 + lo_d x t) < 8) && (if u = t then 0 else lo_h A u (lo_e (lo_y x) u)).testBit (L (t * 8 + lo_d x t))) := by
        intro u hu4
        rw [lo_y_e hx gx u hu4, hH u hu4 _ (hd u hu4), decide_eq_true (show L (t * 8 + lo_d x t) < 8 by omega), Bool.true_and]
        by_cases e : u = t
        · rw [if_pos e, Nat.zero_testBit, decide_eq_false (show ¬ (u ≠ t) from fun q => q e), Bool.false_and]
        · rw [if_neg e, decide_eq_true (show u ≠ t from e), Bool.true_and]
      exact congrArg Bool.not (lo_any_congr _ _ 4 0 (fun u _ hu => key u (by omega)))
    · rw [decide_eq_false (show ¬ T (t * 8 + lo_d x t) = 1 by omega)]
      show (true || _) = _
      rw [Bool.true_or]
      have hf : lo_any (fun u => decide (A (6 * t + lo_d x t) < 8) && (if u = t then 0 else lo_h A u (lo_e (lo_y x) u)).testBit (A (6 * t + lo_d x t))) 4 0 = lo_any (fun _ => false) 4 0 :=
        lo_any_congr _ _ 4 0 (fun u _ _ => by
          show (decide (A (6 * t + lo_d x t) < 8) && _) = false
          rw [decide_eq_false (show ¬ A (6 * t + lo_d x t) < 8 by omega), Bool.false_and])
      rw [hf]
      rfl
  · rw [decide_eq_false hk, decide_eq_false (show ¬ (lo_d x t ≠ n t) by omega), Bool.false_and, Bool.false_and]
/-- the state in which all actions are done -/
def lo_fn (n p : Nat → Nat) : Nat := n 0 * p 0 + n 1 * p 1 + n 2 * p 2 + n 3 * p 3
theorem lo_fnX {n : Nat → Nat} (hn : ∀ t, t < 4 → n t ≤ 6) : lo_fn n lo_p < 4096 ∧ ∀ t, t < 4 → lo_d (lo_fn n lo_p) t = n t := by
  have h0 := hn 0 (by decide)
  have h1 := hn 1 (by decide)
  have h2 := hn 2 (by decide)
  have h3 := hn 3 (by decide)
  obtain ⟨h, d0, d1, d2, d3⟩ := lo_dig (a := n 0) (b := n 1) (c := n 2) (d := n 3) (by omega) (by omega) (by omega) (by omega)
  have e : lo_fn n lo_p = n 0 * 512 + n 1 * 64 + n 2 * 8 + n 3 := by
    show n 0 * 512 + n 1 * 64 + n 2 * 8 + n 3 * 1 = _
    rw [Nat.mul_one]
  rw [e]
  exact ⟨h, lo_4 d0 d1 d2 d3⟩
theorem lo_fnY {n : Nat → Nat} (hn : ∀ t, t < 4 → n t ≤ 6) : lo_fn n lo_q < 2401 ∧ ∀ t, t < 4 → lo_e (lo_fn n lo_q) t = n t := by
  have h0 := hn 0 (by decide)
  have h1 := hn 1 (by decide)
  have h2 := hn 2 (by decide)
  have h3 := hn 3 (by decide)
  obtain ⟨h, d0, d1, d2, d3⟩ := lo_dig7 (a := n 0) (b := n 1) (c := n 2) (d := n 3) (by omega) (by omega) (by omega) (by omega)
  have e : lo_fn n lo_q = n 0 * 343 + n 1 * 49 + n 2 * 7 + n 3 := by
    show n 0 * 343 + n 1 * 49 + n 2 * 7 + n 3 * 1 = _
    rw [Nat.mul_one]
  rw [e]
  exact ⟨h, lo_4 d0 d1 d2 d3⟩
theorem lo_fn_g {n : Nat → Nat} (hn : ∀ t, t < 4 → n t ≤ 6) : lo_g (lo_fn n lo_p) = true := lo_g_of (fun t ht => by rw [(lo_fnX hn).2 t ht]; exact hn t ht)
theorem lo_fn_y {n : Nat → Nat} (hn : ∀ t, t < 4 → n t ≤ 6) : lo_y (lo_fn n lo_p) = lo_fn n lo_q :=
  lo_e_inj (lo_y_lt (lo_fnX hn).1 (lo_fn_g hn)) (lo_fnY hn).1 (fun t ht => by rw [lo_y_e (lo_fnX hn).1 (lo_fn_g hn) t ht, (lo_fnX hn).2 t ht, (lo_fnY hn).2 t ht])
def lo_sk (R : Nat → Int32) (g : Nat → Nat → Bool) (f s : Nat) : Bool := decide (R s ≠ 0) && (decide (s ≠ f) && !lo_any (fun t => g s t) 4 0)
section
variable {n L T H A : Nat → Nat} {a b : (Nat → Int32) × (Nat → Int32)}
theorem lo_R0 (D : lo_D n L T H A) (h : lo_Rr n a b) {x : Nat} (hx : x < 4096) (gx : lo_g x = false) : a.1 x = 0 := by
  rcases h.2 x hx with e | ⟨_, hd⟩
  · exact e
  · have g' : lo_g x = true := lo_g_of (fun u hu => Nat.le_trans (hd u hu) (D.1 u hu))
    rw [g'] at gx
    exact absurd gx (by decide)
theorem lo_Rg (D : lo_D n L T H A) (h : lo_Rr n a b) {x : Nat} (hx : x < 4096) (hr : a.1 x ≠ 0) : lo_g x = true ∧ ∀ u, u < 4 → lo_d x u ≤ n u := by
  rcases h.2 x hx with e | ⟨_, hd⟩
  · exact absurd e hr
  · exact ⟨lo_g_of (fun u hu => Nat.le_trans (hd u hu) (D.1 u hu)), hd⟩
theorem lo_sk_eq (D : lo_D n L T H A) (h : lo_Rr n a b) {x : Nat} (hx : x < 4096) (gx : lo_g x = true) :
    lo_sk a.1 (lo_gX n L T H) (lo_fn n lo_p) x = lo_sk b.1 (lo_gY n A) (lo_fn n lo_q) (lo_y x) := by
  unfold lo_sk
  rw [← (h.1 x hx gx).1]
  by_cases hr : a.1 x = 0
  · rw [decide_eq_false (show ¬ (a.1 x ≠ 0) from fun q => q hr), Bool.false_and, Bool.false_and]
  · have hd := (lo_Rg D h hx hr).2
    have e1 : lo_any (fun t => lo_gX n L T H x t) 4 0 = lo_any (fun t => lo_gY n A (lo_y x) t) 4 0 :=
      lo_any_congr _ _ 4 0 (fun u _ hu => lo_go_eq D hx gx hd u (by omega))
    rw [e1]
    have e2 : decide (x ≠ lo_fn n lo_p) = decide (lo_y x ≠ lo_fn n lo_q) := by
      apply decide_eq_decide.mpr
      rw [← lo_fn_y D.1]
      exact ⟨fun q e => q (lo_y_inj hx (lo_fnX D.1).1 gx (lo_fn_g D.1) e), fun q e => q (by rw [e])⟩
    rw [e2]
theorem lo_sk_no (D : lo_D n L T H A) (h : lo_Rr n a b) {x : Nat} (hx : x < 4096) (gx : lo_g x = false) :
    lo_sk a.1 (lo_gX n L T H) (lo_fn n lo_p) x = false := by
  unfold lo_sk
  rw [decide_eq_false (show ¬ (a.1 x ≠ 0) from fun q => q (lo_R0 D h hx gx)), Bool.false_and]
theorem lo_go_rel (D : lo_D n L T H A) (ha : lo_I0 4096 a) (hb : lo_I0 2401 b) : lo_Rr n (lo_ex (lo_gX n L T H) lo_p a 4096) (lo_ex (lo_gY n A) lo_q b 2401) :=
  lo_ex_rel D.1 (fun x hx gx hd t ht => lo_go_eq D hx gx hd t ht) (fun x _ t _ e => lo_gX_lt e) (lo_I0_rel n ha hb)
end
/-- the state found first: P holds, and i of its kind lie below it -/
def lo_ff (P : Nat → Bool) (V : Nat → Int32) (i : Int32) (x : Nat) (o : Option Int32) : Option Int32 :=
  match o with
  | some r => some r
  | none => if P x = true then (if nI (lo_c P x) = i then some (V x) else none) else none
def lo_fo (P : Nat → Bool) (V : Nat → Int32) (i : Int32) (N : Nat) : Option Int32 := lo_F (lo_ff P V i) none N
theorem lo_fo_some (P : Nat → Bool) (V : Nat → Int32) (i : Int32) {x : Nat} {r : Int32} (h : lo_fo P V i x = some r) : ∀ N, x ≤ N → lo_fo P V i N = some r := by
  intro N hN
  induction N with
  | zero =>
    have e : x = 0 := by omega
    rw [← e]; exact h
  | succ N ih =>
    by_cases e : x = N + 1
    · rw [← e]; exact h
    · have h2 := ih (by omega)
      show lo_ff P V i N (lo_fo P V i N) = some r
      rw [h2]
      rfl
theorem lo_fo_y (P Q : Nat → Bool) (V U : Nat → Int32) (i : Int32) (hg : ∀ x, x < 4096 → lo_g x = true → P x = Q (lo_y x)) (hb : ∀ x, x < 4096 → lo_g x = false → P x = false)
    (hv : ∀ x, x < 4096 → lo_g x = true → V x = U (lo_y x)) : lo_fo P V i 4096 = lo_fo Q U i 2401 := by
  have hc : ∀ x, x ≤ 4096 → lo_c P x = lo_c Q (lo_y x) :=
    lo_F_rel (fun s t : Nat => s = t) (lo_cf P) (lo_cf Q) 0 0 lo_g lo_y 4096 lo_y_0 rfl lo_y_s
      (fun x hx gx s t e => by
        have e' : s = t := e
        subst e'
        show lo_cf P x s = lo_cf Q _ s
        unfold lo_cf
        rw [hg x hx gx])
      (fun x hx gx s t e => by
        have e' : s = t := e
        subst e'
        show lo_cf P x s = s
        unfold lo_cf
        rw [hb x hx gx, if_neg (by decide)])
  have h := lo_F_rel (fun s t : Option Int32 => s = t) (lo_ff P V i) (lo_ff Q U i) none none lo_g lo_y 4096 lo_y_0 rfl lo_y_s
    (fun x hx gx s t e => by
      have e' : s = t := e
      subst e'
      show lo_ff P V i x s = lo_ff Q U i (lo_y x) s
      unfold lo_ff
      rw [hg x hx gx, hv x hx gx, hc x (by omega)])
    (fun x hx gx s t e => by
      have e' : s = t := e
      subst e'
      show lo_ff P V i x s = s
      cases s with
      | some r => rfl
      | none =>
        show (if P x = true then _ else none) = none
        rw [hb x hx gx, if_neg (by decide)]) 4096 (Nat.le_refl _)
  rw [lo_y_N] at h
  exact h
end
section
/-! rings: one fold over the threads, and the way around -/
def lo_r1 (sl rq : Nat → Bool) (M : Nat → Nat) (t : Nat) (o : Option (Nat × Nat × Nat)) : Option (Nat × Nat × Nat) :=
  match o with
  | none => none
  | some v => if sl t = true then (if rq t = true then (if v.1 &&& M t = 0 then some (v.1 ||| M t, v.2.1 + 1, t) else none) else none) else some v
def lo_r4 (sl rq : Nat → Bool) (M : Nat → Nat) (k : Nat) : Option (Nat × Nat × Nat) := lo_F (lo_r1 sl rq M) (some (0, 0, 4)) k
theorem lo_r4_s (sl rq : Nat → Bool) (M : Nat → Nat) (k : Nat) : lo_r4 sl rq M (k + 1) = lo_r1 sl rq M k (lo_r4 sl rq M k) := rfl
theorem lo_r4_none (sl rq : Nat → Bool) (M : Nat → Nat) {k : Nat} (h : lo_r4 sl rq M k = none) : ∀ N, k ≤ N → lo_r4 sl rq M N = none := by
  intro N hN
  induction N with
  | zero =>
    have e : k = 0 := by omega
    rw [← e]; exact h
  | succ N ih =>
    by_cases e : k = N + 1
    · rw [← e]; exact h
    · rw [lo_r4_s, ih (by omega)]
      rfl
theorem lo_r4_congr {sl sl' rq rq' : Nat → Bool} {M M' : Nat → Nat} (N : Nat) (h1 : ∀ t, t < N → sl t = sl' t) (h2 : ∀ t, t < N → sl t = true → rq t = rq' t)
    (h3 : ∀ t, t < N → sl t = true → rq t = true → M t = M' t) : lo_r4 sl rq M N = lo_r4 sl' rq' M' N :=
  lo_F_congr _ _ _ _ (fun t ht s => by
    unfold lo_r1
    cases s with
    | none => rfl
    | some v =>
      show (if sl t = true then _ else _) = (if sl' t = true then _ else _)
      rw [← h1 t ht]
      by_cases e : sl t = true
      · rw [if_pos e, if_pos e, ← h2 t ht e]
        by_cases e2 : rq t = true
        · rw [if_pos e2, if_pos e2, ← h3 t ht e e2]
        · rw [if_neg e2, if_neg e2]
      · rw [if_neg e, if_neg e])
/-- what stands when the fold over the first k threads has not fallen -/
def lo_rI (sl rq : Nat → Bool) (M : Nat → Nat) (k : Nat) (v : Nat × Nat × Nat) : Prop :=
  (∀ t, t < k → sl t = true → rq t = true) ∧
  (∀ t, t < k → sl t = true → ∀ p, (M t).testBit p = true → v.1.testBit p = true) ∧
  (∀ t u, t < k → u < k → sl t = true → sl u = true → ∀ p, (M t).testBit p = true → (M u).testBit p = true → t = u) ∧
  v.2.1 ≤ k ∧ (0 < v.2.1 → v.2.2 < k ∧ sl v.2.2 = true) ∧ (v.2.1 = 0 → v.2.2 = 4)
theorem lo_r4_inv (sl rq : Nat → Bool) (M : Nat → Nat) : ∀ k v, lo_r4 sl rq M k = some v → lo_rI sl rq M k v := by
  intro k
  induction k with
  | zero =>
    intro v h
    have e : ((0, 0, 4) : Nat × Nat × Nat) = v := Option.some.inj h
    subst e
    exact ⟨fun t ht => absurd ht (Nat.not_lt_zero t), fun t ht => absurd ht (Nat.not_lt_zero t), fun t u ht => absurd ht (Nat.not_lt_zero t), Nat.le_refl 0, fun q => absurd q (Nat.lt_irrefl 0), fun _ => rfl⟩
  | succ k ih =>
    intro v h
    rw [lo_r4_s] at h
    cases e : lo_r4 sl rq M k with
    | none =>
      rw [e] at h
      have h' : (none : Option (Nat × Nat × Nat)) = some v := h
      cases h'
    | some w =>
      rw [e] at h
      obtain ⟨i1, i2, i3, i4, i5, i6⟩ := ih w e
      have h' : (if sl k = true then (if rq k = true then (if w.1 &&& M k = 0 then some (w.1 ||| M k, w.2.1 + 1, k) else none) else none) else some w) = some v := h
      by_cases es : sl k = true
      · rw [if_pos es] at h'
        by_cases er : rq k = true
        · rw [if_pos er] at h'
          by_cases em : w.1 &&& M k = 0
          · rw [if_pos em] at h'
            have ev := Option.some.inj h'
            subst ev
            have hdis : ∀ p, w.1.testBit p = true → (M k).testBit p = true → False := by
              intro p a b
              have c : (w.1 &&& M k).testBit p = true := by rw [Nat.testBit_and, a, b]; rfl
              rw [em, Nat.zero_testBit] at c
              exact absurd c (by decide)
            refine ⟨fun t ht hs => ?_, fun t ht hs p hp => ?_, fun t u ht hu hst hsu p hpt hpu => ?_, ?_, fun _ => ⟨by show k < k + 1; omega, es⟩, fun q => ?_⟩
            · by_cases q : t = k
              · subst q; exact er
              · exact i1 t (by omega) hs
            · show (w.1 ||| M k).testBit p = true
              rw [Nat.testBit_or, Bool.or_eq_true]
              by_cases q : t = k
              · subst q; exact Or.inr hp
              · exact Or.inl (i2 t (by omega) hs p hp)
            · by_cases q : t = k
              · by_cases q2 : u = k
                · omega
                · subst q; exact (hdis p (i2 u (by omega) hsu p hpu) hpt).elim
              · by_cases q2 : u = k
                · subst q2; exact (hdis p (i2 t (by omega) hst p hpt) hpu).elim
                · exact i3 t u (by omega) (by omega) hst hsu p hpt hpu
            · show w.2.1 + 1 ≤ k + 1
              omega
            · exact absurd q (Nat.succ_ne_zero _)
          · rw [if_neg em] at h'; cases h'
        · rw [if_neg er] at h'; cases h'
      · rw [if_neg es] at h'
        have ev := Option.some.inj h'
        subst ev
        have hk : ∀ t, t < k + 1 → sl t = true → t < k := by
          intro t ht hs
          by_cases q : t = k
          · subst q; exact absurd hs es
          · omega
        exact ⟨fun t ht hs => i1 t (hk t ht hs) hs, fun t ht hs => i2 t (hk t ht hs) hs, fun t u ht hu hst hsu => i3 t u (hk t ht hst) (hk u hu hsu) hst hsu, by omega, fun q => ⟨by have := (i5 q).1; omega, (i5 q).2⟩, i6⟩
/-- the first of the four with P, or 4 -/
def lo_fst (P : Nat → Bool) : Nat → Nat → Nat
  | 0, _ => 4
  | d + 1, j => if P j = true then j else lo_fst P d (j + 1)
/-- the last below N with P, or 4 -/
def lo_lf (P : Nat → Bool) (t s : Nat) : Nat := if P t = true then t else s
def lo_lst (P : Nat → Bool) (N : Nat) : Nat := lo_F (lo_lf P) 4 N
theorem lo_fst_4 (P : Nat → Bool) : lo_fst P 4 0 = if P 0 = true then 0 else if P 1 = true then 1 else if P 2 = true then 2 else if P 3 = true then 3 else 4 := rfl
theorem lo_lst_4 (P : Nat → Bool) : lo_lst P 4 = if P 3 = true then 3 else if P 2 = true then 2 else if P 1 = true then 1 else if P 0 = true then 0 else 4 := rfl
theorem lo_fst_lst (P : Nat → Bool) (hu : ∀ t u, t < 4 → u < 4 → P t = true → P u = true → t = u) : lo_fst P 4 0 = lo_lst P 4 := by
  rw [lo_fst_4, lo_lst_4]
  have h01 := hu 0 1 (by decide) (by decide)
  have h02 := hu 0 2 (by decide) (by decide)
  have h03 := hu 0 3 (by decide) (by decide)
  have h12 := hu 1 2 (by decide) (by decide)
  have h13 := hu 1 3 (by decide) (by decide)
  have h23 := hu 2 3 (by decide) (by decide)
  cases e0 : P 0 <;> cases e1 : P 1 <;> cases e2 : P 2 <;> cases e3 : P 3 <;>
    first
    | rfl
    | exact absurd (h01 e0 e1) (by decide)
    | exact absurd (h02 e0 e2) (by decide)
    | exact absurd (h03 e0 e3) (by decide)
    | exact absurd (h12 e1 e2) (by decide)
    | exact absurd (h13 e1 e3) (by decide)
    | exact absurd (h23 e2 e3) (by decide)
theorem lo_fst_or (P : Nat → Bool) : lo_fst P 4 0 = 4 ∨ (lo_fst P 4 0 < 4 ∧ P (lo_fst P 4 0) = true) := by
  rw [lo_fst_4]
  by_cases e0 : P 0 = true
  · rw [if_pos e0]; exact Or.inr ⟨by decide, e0⟩
  · rw [if_neg e0]
    by_cases e1 : P 1 = true
    · rw [if_pos e1]; exact Or.inr ⟨by decide, e1⟩
    · rw [if_neg e1]
      by_cases e2 : P 2 = true
      · rw [if_pos e2]; exact Or.inr ⟨by decide, e2⟩
      · rw [if_neg e2]
        by_cases e3 : P 3 = true
        · rw [if_pos e3]; exact Or.inr ⟨by decide, e3⟩
        · rw [if_neg e3]; exact Or.inl rfl
theorem lo_fst_congr (P Q : Nat → Bool) (h : ∀ u, u < 4 → P u = Q u) : lo_fst P 4 0 = lo_fst Q 4 0 := by
  rw [lo_fst_4, lo_fst_4, h 0 (by decide), h 1 (by decide), h 2 (by decide), h 3 (by decide)]
/-- around, as the component goes: d steps left, the k-th is next -/
def lo_rx (nx : Nat → Nat) (f size : Nat) : Nat → Nat → Nat → Bool
  | 0, _, _ => false
  | d + 1, k, t => if nx t = 4 then false else if nx t = f then decide (k = size) else lo_rx nx f size d (k + 1) (nx t)
/-- around, as the reference goes -/
def lo_ry (nx : Nat → Nat) (f : Nat) : Nat → Nat → Nat → Nat
  | 0, _, _ => 0
  | d + 1, k, t => if nx t = 4 then 0 else if nx t = f then k else lo_ry nx f d (k + 1) (nx t)
theorem lo_ry_ge (nx : Nat → Nat) (f : Nat) : ∀ d k t, lo_ry nx f d k t = 0 ∨ k ≤ lo_ry nx f d k t := by
  intro d
  induction d with
  | zero => intro k t; exact Or.inl rfl
  | succ d ih =>
    intro k t
    show (if nx t = 4 then 0 else if nx t = f then k else lo_ry nx f d (k + 1) (nx t)) = 0 ∨ k ≤ (if nx t = 4 then 0 else if nx t = f then k else lo_ry nx f d (k + 1) (nx t))
    by_cases h1 : nx t = 4
    · rw [if_pos h1]; exact Or.inl rfl
    · rw [if_neg h1]
      by_cases h2 : nx t = f
      · rw [if_pos h2]; exact Or.inr (Nat.le_refl _)
      · rw [if_neg h2]
        rcases ih (k + 1) (nx t) with h | h
        · exact Or.inl h
        · exact Or.inr (by omega)
theorem lo_rx_ry {nX nY : Nat → Nat} {f size : Nat} (S : Nat → Prop) (h0 : 0 < size) (he : ∀ t, S t → nX t = nY t) (hs : ∀ t, S t → nX t = 4 ∨ S (nX t)) :
    ∀ d d' k t, d ≤ d' → d + k = size + 1 → S t → lo_rx nX f size d k t = decide (lo_ry nY f d' k t = size) := by
  intro d
  induction d with
  | zero =>
    intro d' k t _ hk _
    show false = _
    symm
    apply decide_eq_false
    rcases lo_ry_ge nY f d' k t with h | h <;> omega
  | succ d ih =>
    intro d' k t hd hk hS
    cases d' with
    | zero => omega
    | succ d' =>
      show (if nX t = 4 then false else if nX t = f then decide (k = size) else lo_rx nX f size d (k + 1) (nX t)) = decide ((if nY t = 4 then 0 else if nY t = f then k else lo_ry nY f d' (k + 1) (nY t)) = size)
      rw [← he t hS]
      by_cases h1 : nX t = 4
      · rw [if_pos h1, if_pos h1]
        symm
        apply decide_eq_false
        omega
      · rw [if_neg h1, if_neg h1]
        by_cases h2 : nX t = f
        · rw [if_pos h2, if_pos h2]
        · rw [if_neg h2, if_neg h2]
          exact ih d' (k + 1) (nX t) (by omega) (by omega) ((hs t hS).resolve_left h1)
/-- a ring, as the component finds it -/
def lo_slX (r t : Nat) : Bool := decide (lo_d r t ≠ 7)
def lo_rqX (n T H : Nat → Nat) (t k : Nat) : Bool := decide (k < n t) && (decide (T (t * 8 + k) = 1) && decide (H (t * 8 + k) ≠ 0))
def lo_nX (L H : Nat → Nat) (r t : Nat) : Nat := lo_fst (fun u => decide (lo_d r u ≠ 7) && (H (u * 8 + lo_d r u)).testBit (L (t * 8 + lo_d r t))) 4 0
def lo_fX (n T H : Nat → Nat) (r k : Nat) : Option (Nat × Nat × Nat) := lo_r4 (lo_slX r) (fun t => lo_rqX n T H t (lo_d r t)) (fun t => H (t * 8 + lo_d r t)) k
def lo_rf (o : Option (Nat × Nat × Nat)) (k : Nat × Nat × Nat → Bool) : Bool :=
  match o with
  | none => false
  | some v => k v
def lo_rX (n L T H : Nat → Nat) (r : Nat) : Bool :=
  lo_rf (lo_fX n T H r 4) (fun v => decide (2 ≤ v.2.1) && lo_rx (lo_nX L H r) v.2.2 v.2.1 v.2.1 1 v.2.2)
/-- a ring, as the reference finds it -/
def lo_slY (e : Nat → Nat) (t : Nat) : Bool := decide (e t < 6)
def lo_rqY (n A : Nat → Nat) (t k : Nat) : Bool := decide (k < n t) && (decide (A (6 * t + k) < 8) && decide (lo_h A t k ≠ 0))
def lo_nY (A e : Nat → Nat) (t : Nat) : Nat := lo_lst (fun u => decide (e u < 6) && (lo_h A u (e u)).testBit (A (6 * t + e t))) 4
def lo_fY (n A e : Nat → Nat) (k : Nat) : Option (Nat × Nat × Nat) := lo_r4 (lo_slY e) (fun t => lo_rqY n A t (e t)) (fun t => lo_h A t (e t)) k
def lo_rY (n A e : Nat → Nat) : Bool :=
  lo_rf (lo_fY n A e 4) (fun v => decide (2 ≤ v.2.1) && decide (lo_ry (lo_nY A e) v.2.2 4 1 v.2.2 = v.2.1))
theorem lo_rX_no {n L T H A : Nat → Nat} (D : lo_D n L T H A) {r : Nat} (g : lo_k r = false) : lo_rX n L T H r = false := by
  obtain ⟨t, ht, e⟩ := lo_k_no g
  unfold lo_rX
  have hn : lo_fX n T H r 4 = none := by
    cases ev : lo_fX n T H r 4 with
    | none => rfl
    | some v =>
      have h1 := (lo_r4_inv _ _ _ 4 v ev).1 t ht (by unfold lo_slX; rw [e]; rfl)
      have h2 : lo_rqX n T H t (lo_d r t) = true := h1
      unfold lo_rqX at h2
      rw [Bool.and_eq_true, decide_eq_true_eq] at h2
      have h3 := D.1 t ht
      omega
  rw [hn]
  rfl
theorem lo_rX_eq {n L T H A : Nat → Nat} (D : lo_D n L T H A) {r : Nat} {e : Nat → Nat} (g : lo_k r = true) (he : ∀ t, t < 4 → e t = if lo_d r t = 7 then 6 else lo_d r t) :
    lo_rX n L T H r = lo_rY n A e := by
  obtain ⟨hn, hT, hH, hL, hT1, hHb, hA⟩ := D
  have hk := lo_k_to g
  have hsl : ∀ t, t < 4 → lo_slX r t = lo_slY e t := by
    intro t ht
    unfold lo_slX lo_slY
    apply decide_eq_decide.mpr
    have h1 := he t ht
    have h2 := hk t ht
    have h3 := lo_d_lt r t
    by_cases q : lo_d r t = 7
    · rw [if_pos q] at h1; omega
    · rw [if_neg q] at h1; omega
  have hse : ∀ t, t < 4 → lo_slX r t = true → e t = lo_d r t := by
    intro t ht hs
    unfold lo_slX at hs
    rw [decide_eq_true_eq] at hs
    rw [he t ht, if_neg hs]
  have hrq : ∀ t, t < 4 → lo_slX r t = true → lo_rqX n T H t (lo_d r t) = lo_rqY n A t (e t) := by
    intro t ht hs
    rw [hse t ht hs]
    unfold lo_rqX lo_rqY
    by_cases q : lo_d r t < n t
    · have h5 := hL (t * 8 + lo_d r t)
      rw [hH t ht (lo_d r t) (by omega)]
      rcases hT t ht (lo_d r t) q with ⟨e1, e2⟩ | ⟨e1, e2⟩
      · rw [decide_eq_true e1, decide_eq_true (show A (6 * t + lo_d r t) < 8 by omega)]
      · rw [decide_eq_false (show ¬ T (t * 8 + lo_d r t) = 1 by omega), decide_eq_false (show ¬ A (6 * t + lo_d r t) < 8 by omega)]
    · rw [decide_eq_false q, Bool.false_and, Bool.false_and]
  have hM : ∀ t, t < 4 → lo_slX r t = true → lo_rqX n T H t (lo_d r t) = true → H (t * 8 + lo_d r t) = lo_h A t (e t) := by
    intro t ht hs hr
    unfold lo_rqX at hr
    rw [Bool.and_eq_true, decide_eq_true_eq] at hr
    rw [hse t ht hs]
    exact hH t ht _ (by omega)
  have hf : lo_fX n T H r 4 = lo_fY n A e 4 := lo_r4_congr 4 hsl hrq hM
  unfold lo_rX lo_rY
  rw [← hf]
  cases ev : lo_fX n T H r 4 with
  | none => rfl
  | some v =>
    obtain ⟨i1, _, i3, i4, i5, _⟩ := lo_r4_inv _ _ _ 4 v ev
    show (decide (2 ≤ v.2.1) && lo_rx (lo_nX L H r) v.2.2 v.2.1 v.2.1 1 v.2.2) = (decide (2 ≤ v.2.1) && decide (lo_ry (lo_nY A e) v.2.2 4 1 v.2.2 = v.2.1))
    by_cases h2 : 2 ≤ v.2.1
    · have hS : ∀ t, t < 4 ∧ lo_slX r t = true → lo_nX L H r t = lo_nY A e t := by
        rintro t ⟨ht, hs⟩
        have hr : lo_rqX n T H t (lo_d r t) = true := i1 t ht hs
        have hr2 := hr
        unfold lo_rqX at hr2
        rw [Bool.and_eq_true, Bool.and_eq_true, decide_eq_true_eq, decide_eq_true_eq] at hr2
        have hA2 : A (6 * t + e t) = L (t * 8 + lo_d r t) := by
          rw [hse t ht hs]
          rcases hT t ht (lo_d r t) hr2.1 with ⟨_, e2⟩ | ⟨e1, _⟩
          · exact e2
          · omega
        unfold lo_nX lo_nY
        rw [hA2]
        have hcg : ∀ u, u < 4 → (decide (lo_d r u ≠ 7) && (H (u * 8 + lo_d r u)).testBit (L (t * 8 + lo_d r t))) = (decide (e u < 6) && (lo_h A u (e u)).testBit (L (t * 8 + lo_d r t))) := by
          intro u hu
          have h1 : decide (lo_d r u ≠ 7) = decide (e u < 6) := hsl u hu
          rw [← h1]
          cases q : decide (lo_d r u ≠ 7) with
          | false => rfl
          | true => rw [hM u hu q (i1 u hu q)]
        rw [lo_fst_congr _ _ hcg]
        refine lo_fst_lst _ (fun a b ha hb pa pb => ?_)
        have pa' : (decide (e a < 6) && (lo_h A a (e a)).testBit (L (t * 8 + lo_d r t))) = true := pa
        have pb' : (decide (e b < 6) && (lo_h A b (e b)).testBit (L (t * 8 + lo_d r t))) = true := pb
        rw [← hcg a ha, Bool.and_eq_true] at pa'
        rw [← hcg b hb, Bool.and_eq_true] at pb'
        exact i3 a b ha hb pa'.1 pb'.1 _ pa'.2 pb'.2
      have hN : ∀ t, t < 4 ∧ lo_slX r t = true → lo_nX L H r t = 4 ∨ (lo_nX L H r t < 4 ∧ lo_slX r (lo_nX L H r t) = true) := by
        rintro t _
        unfold lo_nX
        rcases lo_fst_or (fun u => decide (lo_d r u ≠ 7) && (H (u * 8 + lo_d r u)).testBit (L (t * 8 + lo_d r t))) with h | ⟨h, h'⟩
        · exact Or.inl h
        · exact Or.inr ⟨h, (Bool.and_eq_true_iff.mp h').1⟩
      rw [lo_rx_ry (fun t => t < 4 ∧ lo_slX r t = true) (by omega) hS hN v.2.1 4 1 v.2.2 i4 (by omega) (i5 (by omega))]
    · rw [decide_eq_false h2, Bool.false_and, Bool.false_and]
end
section
/-! which rings are met, and in which states -/
def lo_na (s k : Nat) : Nat :=
  (if k.testBit 0 = true then lo_d s 0 else 7) * 512 + (if k.testBit 1 = true then lo_d s 1 else 7) * 64 + (if k.testBit 2 = true then lo_d s 2 else 7) * 8 + (if k.testBit 3 = true then lo_d s 3 else 7)
theorem lo_na_b (s k t : Nat) : (if k.testBit t = true then lo_d s t else 7) < 8 := by
  by_cases h : k.testBit t = true
  · rw [if_pos h]; exact lo_d_lt s t
  · rw [if_neg h]; decide
theorem lo_na_d (s k : Nat) : lo_na s k < 4096 ∧ ∀ t, t < 4 → lo_d (lo_na s k) t = if k.testBit t = true then lo_d s t else 7 := by
  obtain ⟨h, h0, h1, h2, h3⟩ := lo_dig (lo_na_b s k 0) (lo_na_b s k 1) (lo_na_b s k 2) (lo_na_b s k 3)
  exact ⟨h, lo_4 h0 h1 h2 h3⟩
theorem lo_kb : ∀ a b c d : Bool, a.toNat + 2 * b.toNat + 4 * c.toNat + 8 * d.toNat < 16 ∧ (a.toNat + 2 * b.toNat + 4 * c.toNat + 8 * d.toNat).testBit 0 = a ∧ (a.toNat + 2 * b.toNat + 4 * c.toNat + 8 * d.toNat).testBit 1 = b ∧ (a.toNat + 2 * b.toNat + 4 * c.toNat + 8 * d.toNat).testBit 2 = c ∧ (a.toNat + 2 * b.toNat + 4 * c.toNat + 8 * d.toNat).testBit 3 = d := by decide
theorem lo_kk (f : Nat → Bool) : ∃ k, k < 16 ∧ ∀ t, t < 4 → k.testBit t = f t := by
  obtain ⟨h, h0, h1, h2, h3⟩ := lo_kb (f 0) (f 1) (f 2) (f 3)
  exact ⟨_, h, lo_4 h0 h1 h2 h3⟩
/-- ring z is met in state y -/
def lo_mY (z y : Nat) : Bool := !lo_any (fun t => decide (lo_e z t < 6) && decide (lo_e z t ≠ lo_e y t)) 4 0
theorem lo_mY_iff (z y : Nat) : lo_mY z y = true ↔ ∀ t, t < 4 → lo_e z t < 6 → lo_e z t = lo_e y t := by
  unfold lo_mY
  rw [Bool.not_eq_true', ← Bool.not_eq_true, lo_any_iff]
  constructor
  · intro h t ht h6
    apply Classical.byContradiction
    intro hne
    exact h ⟨t, by omega, by omega, Bool.and_eq_true_iff.mpr ⟨decide_eq_true h6, decide_eq_true hne⟩⟩
  · rintro h ⟨t, _, ht, hb⟩
    have hc := Bool.and_eq_true_iff.mp hb
    exact (of_decide_eq_true hc.2) (h t (by omega) (of_decide_eq_true hc.1))
theorem lo_M1 {s k : Nat} (hs : s < 4096) (gs : lo_g s = true) (g : lo_k (lo_na s k) = true) : lo_mY (lo_z (lo_na s k)) (lo_y s) = true := by
  rw [lo_mY_iff]
  intro t ht h6
  obtain ⟨hr, hd⟩ := lo_na_d s k
  rw [lo_z_e hr g t ht] at h6 ⊢
  rw [lo_y_e hs gs t ht]
  have h1 := hd t ht
  by_cases q : lo_d (lo_na s k) t = 7
  · rw [if_pos q] at h6; omega
  · rw [if_neg q]
    by_cases q2 : k.testBit t = true
    · rw [if_pos q2] at h1; exact h1
    · rw [if_neg q2] at h1; exact absurd h1 q
theorem lo_M2 {r s : Nat} (hr : r < 4096) (g : lo_k r = true) (hs : s < 4096) (gs : lo_g s = true) (h : lo_mY (lo_z r) (lo_y s) = true) : ∃ k, k < 16 ∧ r = lo_na s k := by
  rw [lo_mY_iff] at h
  obtain ⟨k, hk, ht⟩ := lo_kk (fun t => decide (lo_d r t ≠ 7))
  refine ⟨k, hk, lo_d_inj hr (lo_na_d s k).1 (fun t h4 => ?_)⟩
  rw [(lo_na_d s k).2 t h4, ht t h4]
  by_cases q : lo_d r t = 7
  · rw [if_neg (by rw [decide_eq_true_eq]; exact fun z => z q)]; exact q
  · rw [if_pos (by rw [decide_eq_true_eq]; exact q)]
    have h1 := h t h4
    rw [lo_z_e hr g t h4, if_neg q, lo_y_e hs gs t h4] at h1
    have h2 := lo_k_to g t h4
    have h3 := lo_d_lt r t
    exact h1 (by omega)
theorem lo_z_sur {y : Nat} (hy : y < 2401) : ∃ r, r < 4096 ∧ lo_k r = true ∧ lo_z r = y := by
  have hb : ∀ t, t < 4 → (if lo_e y t = 6 then 7 else lo_e y t) < 8 := by
    intro t _
    have := lo_e_lt y t
    by_cases q : lo_e y t = 6
    · rw [if_pos q]; decide
    · rw [if_neg q]; omega
  obtain ⟨x, hx, _, hd⟩ := lo_mk (fun t => if lo_e y t = 6 then 7 else lo_e y t) hb
  have hd' : ∀ t, t < 4 → lo_d x t = if lo_e y t = 6 then 7 else lo_e y t := hd
  have g : lo_k x = true := lo_k_of (fun t ht => by
    rw [hd' t ht]
    by_cases q : lo_e y t = 6
    · rw [if_pos q]; decide
    · rw [if_neg q]; exact q)
  refine ⟨x, hx, g, lo_e_inj (lo_z_lt hx g) hy (fun t ht => ?_)⟩
  rw [lo_z_e hx g t ht, hd' t ht]
  have h7 := lo_e_lt y t
  by_cases q : lo_e y t = 6
  · rw [if_pos q, if_pos rfl, q]
  · rw [if_neg q, if_neg (by omega)]
/-- a ring of the next actions in state s -/
def lo_ms (G : Nat → Bool) (s : Nat) : Bool := lo_any (fun k => G (lo_na s k)) 16 0
section
variable {n L T H A : Nat → Nat} {a b : (Nat → Int32) × (Nat → Int32)}
theorem lo_rX_k (D : lo_D n L T H A) {r : Nat} (h : lo_rX n L T H r = true) : lo_k r = true := by
  cases g : lo_k r with
  | true => rfl
  | false => rw [lo_rX_no D g] at h; exact h
theorem lo_rXz (D : lo_D n L T H A) {r : Nat} (hr : r < 4096) (g : lo_k r = true) : lo_rX n L T H r = lo_rY n A (lo_e (lo_z r)) := lo_rX_eq D g (lo_z_e hr g)
theorem lo_ms_iff (D : lo_D n L T H A) {s : Nat} (hs : s < 4096) (gs : lo_g s = true) :
    lo_ms (lo_rX n L T H) s = true ↔ ∃ y, y < 2401 ∧ lo_rY n A (lo_e y) = true ∧ lo_mY y (lo_y s) = true := by
  unfold lo_ms
  rw [lo_any_iff]
  constructor
  · rintro ⟨k, _, hk, h⟩
    have hr := (lo_na_d s k).1
    have g := lo_rX_k D h
    exact ⟨lo_z (lo_na s k), lo_z_lt hr g, by rw [← lo_rXz D hr g]; exact h, lo_M1 hs gs g⟩
  · rintro ⟨y, hy, h1, h2⟩
    obtain ⟨r, hr, g, e⟩ := lo_z_sur hy
    subst e
    obtain ⟨k, hk, e⟩ := lo_M2 hr g hs gs h2
    refine ⟨k, by omega, by omega, ?_⟩
    show lo_rX n L T H (lo_na s k) = true
    rw [← e, lo_rXz D hr g]
    exact h1
def lo_mt (R : Nat → Int32) (z : Nat) : Bool := lo_any (fun y => decide (R y ≠ 0) && lo_mY z y) 2401 0
theorem lo_met_iff (D : lo_D n L T H A) (h : lo_Rr n a b) {r : Nat} (hr : r < 4096) (g : lo_k r = true) :
    (lo_rX n L T H r = true ∧ ∃ s, s < 4096 ∧ a.1 s ≠ 0 ∧ ∃ k, k < 16 ∧ r = lo_na s k) ↔ (lo_rY n A (lo_e (lo_z r)) && lo_mt b.1 (lo_z r)) = true := by
  unfold lo_mt
  rw [Bool.and_eq_true, ← lo_rXz D hr g, lo_any_iff]
  constructor
  · rintro ⟨h1, s, hs, hR, k, _, e⟩
    obtain ⟨gs, _⟩ := lo_Rg D h hs hR
    subst e
    refine ⟨h1, lo_y s, by omega, by have := lo_y_lt hs gs; omega, ?_⟩
    have hR2 : b.1 (lo_y s) ≠ 0 := by rw [← (h.1 s hs gs).1]; exact hR
    exact Bool.and_eq_true_iff.mpr ⟨decide_eq_true hR2, lo_M1 hs gs g⟩
  · rintro ⟨h1, y, _, hy, h2⟩
    have h3 := Bool.and_eq_true_iff.mp h2
    obtain ⟨s, hs, gs, e⟩ := lo_y_sur (y := y) (by omega)
    subst e
    obtain ⟨k, hk, e⟩ := lo_M2 hr g hs gs h3.2
    exact ⟨h1, s, hs, by rw [(h.1 s hs gs).1]; exact of_decide_eq_true h3.1, k, hk, e⟩
end
/-- the list of rings, as the reference keeps it -/
def lo_u (f : Nat → Nat) (k v : Nat) : Nat → Nat := fun j => if j = k then v else f j
theorem lo_us {f : Nat → Nat} {k v : Nat} : lo_u f k v k = v := if_pos rfl
theorem lo_un {f : Nat → Nat} {k j v : Nat} (h : j ≠ k) : lo_u f k v j = f j := if_neg h
def lo_lr (G : Nat → Bool) (y : Nat) (s : Nat × (Nat → Nat)) : Nat × (Nat → Nat) := if G y = true then (s.1 + 1, lo_u s.2 s.1 y) else s
def lo_ls (G : Nat → Bool) (N : Nat) : Nat × (Nat → Nat) := lo_F (lo_lr G) (0, fun _ => 0) N
theorem lo_ls_t {G : Nat → Bool} {N : Nat} (h : G N = true) : lo_ls G (N + 1) = ((lo_ls G N).1 + 1, lo_u (lo_ls G N).2 (lo_ls G N).1 N) := by
  show lo_lr G N (lo_ls G N) = _
  unfold lo_lr
  rw [if_pos h]
theorem lo_ls_f {G : Nat → Bool} {N : Nat} (h : ¬ G N = true) : lo_ls G (N + 1) = lo_ls G N := by
  show lo_lr G N (lo_ls G N) = _
  unfold lo_lr
  rw [if_neg h]
theorem lo_ls_1 (G : Nat → Bool) : ∀ N, (lo_ls G N).1 = lo_c G N := by
  intro N
  induction N with
  | zero => rfl
  | succ N ih =>
    rw [lo_c_s]
    by_cases h : G N = true
    · rw [lo_ls_t h, if_pos h, ← ih]
    · rw [lo_ls_f h, if_neg h, ih]
theorem lo_ls_lt (G : Nat → Bool) : ∀ N j, j < (lo_ls G N).1 → (lo_ls G N).2 j < N := by
  intro N
  induction N with
  | zero => intro j hj; exact absurd hj (Nat.not_lt_zero j)
  | succ N ih =>
    intro j hj
    by_cases h : G N = true
    · rw [lo_ls_t h] at hj ⊢
      have hj' : j < (lo_ls G N).1 + 1 := hj
      show lo_u (lo_ls G N).2 (lo_ls G N).1 N j < N + 1
      by_cases e : j = (lo_ls G N).1
      · rw [e, lo_us]; omega
      · rw [lo_un e]
        have := ih j (by omega)
        omega
    · rw [lo_ls_f h] at hj ⊢
      have := ih j hj
      omega
theorem lo_ls_c (G Q : Nat → Bool) : ∀ N, lo_c (fun j => Q ((lo_ls G N).2 j)) (lo_ls G N).1 = lo_c (fun y => G y && Q y) N := by
  intro N
  induction N with
  | zero => rfl
  | succ N ih =>
    rw [lo_c_s (fun y => G y && Q y) N, ← ih]
    by_cases h : G N = true
    · rw [lo_ls_t h]
      have e1 : lo_c (fun j => Q (lo_u (lo_ls G N).2 (lo_ls G N).1 N j)) (lo_ls G N).1 = lo_c (fun j => Q ((lo_ls G N).2 j)) (lo_ls G N).1 :=
        lo_c_congr _ _ _ (fun x hx => by
          show Q (lo_u (lo_ls G N).2 (lo_ls G N).1 N x) = Q ((lo_ls G N).2 x)
          rw [lo_un (by omega)])
      have e0 : Q (lo_u (lo_ls G N).2 (lo_ls G N).1 N (lo_ls G N).1) = Q N := by rw [lo_us]
      show (if Q (lo_u (lo_ls G N).2 (lo_ls G N).1 N (lo_ls G N).1) = true then lo_c (fun j => Q (lo_u (lo_ls G N).2 (lo_ls G N).1 N j)) (lo_ls G N).1 + 1 else lo_c (fun j => Q (lo_u (lo_ls G N).2 (lo_ls G N).1 N j)) (lo_ls G N).1) = (if (G N && Q N) = true then _ else _)
      rw [e1, e0, h, Bool.true_and]
    · have hq : ¬ (G N && Q N) = true := fun q => h (Bool.and_eq_true_iff.mp q).1
      rw [lo_ls_f h]
      show _ = (if (G N && Q N) = true then _ else _)
      rw [if_neg hq]
theorem lo_ls_ex (G Q : Nat → Bool) : ∀ N, (∃ j, j < (lo_ls G N).1 ∧ Q ((lo_ls G N).2 j) = true) ↔ ∃ y, y < N ∧ G y = true ∧ Q y = true := by
  intro N
  induction N with
  | zero =>
    constructor
    · rintro ⟨j, hj, _⟩; exact absurd hj (Nat.not_lt_zero j)
    · rintro ⟨j, hj, _⟩; exact absurd hj (Nat.not_lt_zero j)
  | succ N ih =>
    by_cases h : G N = true
    · rw [lo_ls_t h]
      constructor
      · rintro ⟨j, hj, hq⟩
        have hj' : j < (lo_ls G N).1 + 1 := hj
        have hq' : Q (lo_u (lo_ls G N).2 (lo_ls G N).1 N j) = true := hq
        by_cases e : j = (lo_ls G N).1
        · rw [e, lo_us] at hq'; exact ⟨N, by omega, h, hq'⟩
        · rw [lo_un e] at hq'
          obtain ⟨y, hy, h1, h2⟩ := ih.mp ⟨j, by omega, hq'⟩
          exact ⟨y, by omega, h1, h2⟩
      · rintro ⟨y, hy, h1, h2⟩
        by_cases e : y = N
        · subst e
          refine ⟨(lo_ls G y).1, by show (lo_ls G y).1 < (lo_ls G y).1 + 1; omega, ?_⟩
          show Q (lo_u (lo_ls G y).2 (lo_ls G y).1 y (lo_ls G y).1) = true
          rw [lo_us]; exact h2
        · obtain ⟨j, hj, hq⟩ := ih.mpr ⟨y, by omega, h1, h2⟩
          refine ⟨j, by show j < (lo_ls G N).1 + 1; omega, ?_⟩
          show Q (lo_u (lo_ls G N).2 (lo_ls G N).1 N j) = true
          rw [lo_un (by omega)]; exact hq
    · rw [lo_ls_f h, ih]
      constructor
      · rintro ⟨y, hy, h1, h2⟩; exact ⟨y, by omega, h1, h2⟩
      · rintro ⟨y, hy, h1, h2⟩
        by_cases e : y = N
        · subst e; exact absurd h1 h
        · exact ⟨y, by omega, h1, h2⟩
/-- the soonest -/
def lo_sm (d : Nat → Nat) : Nat := d 0 + d 1 + d 2 + d 3
def lo_sX (m : Nat → Bool) (x : Nat) (l : Int32) : Int32 := if m x = true then (if l = -4 then nI (lo_sm (lo_d x)) else if nI (lo_sm (lo_d x)) < l then nI (lo_sm (lo_d x)) else l) else l
def lo_sY (m : Nat → Bool) (y : Nat) (l : Int32) : Int32 := if m y = true then (if nI (lo_sm (lo_e y)) < l then nI (lo_sm (lo_e y)) else l) else l
def lo_so (s t : Int32) : Prop := (s = -4 ∧ t = 99) ∨ ∃ k, k ≤ 98 ∧ s = nI k ∧ t = nI k
theorem lo_99 : (99 : Int32) = nI 99 := by decide
theorem lo_so_rel (P Q : Nat → Bool) (hg : ∀ x, x < 4096 → lo_g x = true → P x = Q (lo_y x)) (hb : ∀ x, x < 4096 → lo_g x = false → P x = false) :
    lo_so (lo_F (lo_sX P) (-4) 4096) (lo_F (lo_sY Q) 99 2401) := by
  have h := lo_F_rel lo_so (lo_sX P) (lo_sY Q) (-4) 99 lo_g lo_y 4096 lo_y_0 (Or.inl ⟨rfl, rfl⟩) lo_y_s
    (fun x hx gx s t e => by
      unfold lo_sX lo_sY
      have es : lo_sm (lo_e (lo_y x)) = lo_sm (lo_d x) := by
        unfold lo_sm
        rw [lo_y_e hx gx 0 (by decide), lo_y_e hx gx 1 (by decide), lo_y_e hx gx 2 (by decide), lo_y_e hx gx 3 (by decide)]
      have hm : lo_sm (lo_d x) < 99 := by
        have h0 := lo_d_lt x 0
        have h1 := lo_d_lt x 1
        have h2 := lo_d_lt x 2
        have h3 := lo_d_lt x 3
        unfold lo_sm
        omega
      rw [es, ← hg x hx gx]
      by_cases hp : P x = true
      · rw [if_pos hp, if_pos hp]
        rcases e with ⟨e1, e2⟩ | ⟨k, hk, e1, e2⟩
        · have h9 : nI (lo_sm (lo_d x)) < t := by rw [e2, lo_99]; exact nI_lt hm (by decide)
          rw [if_pos e1, if_pos h9]
          exact Or.inr ⟨_, by omega, rfl, rfl⟩
        · have h4 : ¬ s = -4 := by
            rw [e1]
            intro q
            have q2 := congrArg Int32.toInt q
            rw [nI_toInt (by omega), show (-4 : Int32).toInt = -4 from by decide] at q2
            omega
          rw [if_neg h4, e1, e2]
          by_cases hl : nI (lo_sm (lo_d x)) < nI k
          · rw [if_pos hl]; exact Or.inr ⟨_, by omega, rfl, rfl⟩
          · rw [if_neg hl]; exact Or.inr ⟨k, hk, rfl, rfl⟩
      · rw [if_neg hp, if_neg hp]; exact e)
    (fun x hx gx s t e => by
      unfold lo_sX
      rw [hb x hx gx, if_neg (by decide)]
      exact e) 4096 (Nat.le_refl _)
  rw [lo_y_N] at h
  exact h
theorem lo_so_ans {s t : Int32} (h : lo_so s t) : (t = 99 → s = -4) ∧ (¬ t = 99 → s = t) := by
  rcases h with ⟨e1, e2⟩ | ⟨k, hk, e1, e2⟩
  · exact ⟨fun _ => e1, fun q => absurd e2 q⟩
  · refine ⟨fun q => ?_, fun _ => by rw [e1, e2]⟩
    rw [e2, lo_99, nI_eq (by omega) (by decide)] at q
    omega
end
section
/-! numbers as the two programs reckon them -/
def lo_a (f : Nat → Nat) : Nat → Int32 := fun j => nI (f j)
def lo_b (b : Bool) : Int32 := if b = true then 1 else 0
theorem lo_b_t {b : Bool} (h : b = true) : lo_b b = 1 := if_pos h
theorem lo_b_f {b : Bool} (h : b = false) : lo_b b = 0 := if_neg (by rw [h]; decide)
theorem lo_b0 (b : Bool) : lo_b b = 0 ↔ b = false := by cases b <;> decide
theorem lo_bn (b : Bool) : narrow .boolean (.int (lo_b b)) = .int (lo_b b) := by cases b <;> rfl
theorem lo_au (f : Nat → Nat) (k v : Nat) : upd (lo_a f) k (nI v) = lo_a (lo_u f k v) := by
  funext j
  show (if j = k then nI v else nI (f j)) = nI (if j = k then v else f j)
  by_cases h : j = k
  · rw [if_pos h, if_pos h]
  · rw [if_neg h, if_neg h]
theorem lo_bit : ∀ m, m < 32 → ∀ p, p < 5 → ((nI m &&& ((1 : Int32) <<< (nI p &&& 31))) = 0 ↔ m.testBit p = false) := by decide +kernel
theorem lo_bitY : ∀ m, m < 32 → ∀ p, p < 5 → ((nI m >>> (nI p &&& 31)) &&& 1) = lo_b (m.testBit p) := by decide +kernel
theorem lo_xorI : ∀ m, m < 32 → ∀ p, p < 5 → nI m ^^^ ((1 : Int32) <<< (nI p &&& 31)) = nI (m ^^^ 2 ^ p) := by decide +kernel
theorem lo_orI : ∀ m, m < 32 → ∀ p, p < 5 → nI m ||| ((1 : Int32) <<< (nI p &&& 31)) = nI (m ||| 2 ^ p) := by decide +kernel
theorem lo_clrI : ∀ m, m < 32 → ∀ p, p < 5 → nI m &&& (((1 : Int32) <<< ((nI (8 + p) - 8) &&& 31)) ^^^ (-1)) = nI (m &&& (31 - 2 ^ p)) := by decide +kernel
theorem lo_m_take : ∀ m, m < 32 → ∀ p, p < 5 → m.testBit p = false → m ^^^ 2 ^ p = lo_m m p := by decide +kernel
theorem lo_m_give : ∀ m, m < 32 → ∀ p, p < 5 → m.testBit p = true → m ^^^ 2 ^ p = lo_m m (8 + p) := by decide +kernel
theorem lo_xor_lt : ∀ m, m < 32 → ∀ p, p < 5 → m ^^^ 2 ^ p < 32 := by decide +kernel
theorem lo_oneI : ∀ t, t < 4 → (1 : Int32) <<< ((9 - 3 * nI t) &&& 31) = nI (lo_p t) := by decide +kernel
theorem lo_dI {x t : Nat} (hx : x < 4096) (ht : t < 4) : (nI x >>> ((9 - 3 * nI t) &&& 31)) &&& 7 = nI (lo_d x t) := by
  have h9 : ∀ k, x / 2 ^ k < 2 ^ 32 := fun k => Nat.lt_of_le_of_lt (Nat.div_le_self _ _) (by omega)
  have h : t = 0 ∨ t = 1 ∨ t = 2 ∨ t = 3 := by omega
  rcases h with rfl | rfl | rfl | rfl
  · rw [pk_shrN (by omega) _ 9 (by decide), pk_andN (h9 9) 3 (by decide)]; rfl
  · rw [pk_shrN (by omega) _ 6 (by decide), pk_andN (h9 6) 3 (by decide)]; rfl
  · rw [pk_shrN (by omega) _ 3 (by decide), pk_andN (h9 3) 3 (by decide)]; rfl
  · rw [pk_shrN (by omega) _ 0 (by decide), pk_andN (h9 0) 3 (by decide)]; rfl
theorem lo_cellI (t d : Nat) : nI t * 8 + nI d = nI (t * 8 + d) := by
  rw [show (8 : Int32) = nI 8 from rfl, pk_mul, nI_add]
theorem lo_cell6 (t d : Nat) : 6 * nI t + nI d = nI (6 * t + d) := by
  rw [show (6 : Int32) = nI 6 from rfl, pk_mul, nI_add]
theorem lo_rem7 {v : Nat} (h : v < 2 ^ 31) : nI v - nI v / 7 * 7 = nI (v % 7) := pk_rem h (by decide) (by decide)
theorem lo_q_pos (t : Nat) : 0 < lo_q t ∧ lo_q t ≤ 343 := by
  unfold lo_q
  split <;> decide
theorem lo_p_pos (t : Nat) : 0 < lo_p t ∧ lo_p t ≤ 512 := by
  unfold lo_p
  split <;> decide
theorem lo_eI {y t : Nat} (hy : y < 2401) : nI y / nI (lo_q t) - nI y / nI (lo_q t) / 7 * 7 = nI (lo_e y t) := by
  have hq := lo_q_pos t
  rw [pk_div (by omega) hq.1 (by omega), lo_rem7 (Nat.lt_of_le_of_lt (Nat.div_le_self _ _) (by omega))]
  rfl
theorem lo_andI (a b : Nat) : nI a &&& nI b = nI (a &&& b) := by
  apply Int32.toBitVec_inj.1
  show BitVec.ofNat 32 a &&& BitVec.ofNat 32 b = BitVec.ofNat 32 (a &&& b)
  apply BitVec.eq_of_getLsbD_eq
  intro i hi
  simp [hi]
theorem lo_or2 (a b : Nat) : nI a ||| nI b = nI (a ||| b) := by
  apply Int32.toBitVec_inj.1
  show BitVec.ofNat 32 a ||| BitVec.ofNat 32 b = BitVec.ofNat 32 (a ||| b)
  apply BitVec.eq_of_getLsbD_eq
  intro i hi
  simp [hi]
theorem lo_bit16 : ∀ k, k < 16 → ∀ t, t < 4 → ((nI k &&& ((1 : Int32) <<< (nI t &&& 31))) = 0 ↔ k.testBit t = false) := by decide +kernel
/-- a loop over a fold -/
theorem lo_loop {σ : Type} (W : Nat → Nat → σ → Prop) (f : Nat → σ → σ) (z : σ) (e : Nat) (hx : ∀ n, W (n + 1) e (lo_F f z e))
    (hs : ∀ n i, i < e → W n (i + 1) (lo_F f z (i + 1)) → W (n + 1) i (lo_F f z i)) : W (e + 1) 0 z :=
  loop_i W (fun i s => s = lo_F f z i) e (fun n s h => by rw [h]; exact hx n) (fun n i s hi h k => by rw [h]; exact hs n i hi (k _ rfl)) (e + 1) 0 z (Nat.zero_le _) (by omega) rfl
theorem lo_loopS {σ : Type} (W : Nat → Nat → σ → Prop) (S : Nat → σ) (e : Nat) (hx : ∀ n, W (n + 1) e (S e))
    (hs : ∀ n i, i < e → W n (i + 1) (S (i + 1)) → W (n + 1) i (S i)) : W (e + 1) 0 (S 0) :=
  loop_i W (fun i s => s = S i) e (fun n s h => by rw [h]; exact hx n) (fun n i s hi h k => by rw [h]; exact hs n i hi (k _ rfl)) (e + 1) 0 (S 0) (Nat.zero_le _) (by omega) rfl
theorem lo_at (f : Nat → Nat) {t : Nat} (h : t < 2 ^ 31) : lo_a f (nI t).toNatClampNeg = nI (f t) := by
  rw [nI_clamp h]
  rfl
theorem lo_br {b : Bool} {A B : Prop} (f : b = false → A) (g : b = true → B) : (lo_b b = 0 → A) ∧ (¬ lo_b b = 0 → B) := by
  cases b with
  | false => exact br_t rfl (f rfl)
  | true => exact br_f (by decide) (g rfl)
/-- a bit test, as the component makes it -/
theorem lo_brb {m p : Nat} {y : Int32} {A B : Prop} (hy : y = nI m) (hm : m < 32) (hp : p < 5) (f : m.testBit p = false → A) (g : m.testBit p = true → B) :
    ((y &&& ((1 : Int32) <<< (nI p &&& 31))) = 0 → A) ∧ (¬ (y &&& ((1 : Int32) <<< (nI p &&& 31))) = 0 → B) := by
  subst hy
  have h := lo_bit m hm p hp
  refine ⟨fun e => f (h.mp e), fun e => g ?_⟩
  cases q : m.testBit p with
  | true => rfl
  | false => exact absurd (h.mpr q) e
/-- a bit test, as the reference makes it -/
theorem lo_brY {m p : Nat} {A B : Prop} (hm : m < 32) (hp : p < 5) (f : m.testBit p = true → A) (g : m.testBit p = false → B) :
    (((nI m >>> (nI p &&& 31)) &&& 1) = 1 → A) ∧ (¬ ((nI m >>> (nI p &&& 31)) &&& 1) = 1 → B) := by
  rw [lo_bitY m hm p hp]
  cases q : m.testBit p with
  | true => exact br_t rfl (f q)
  | false => exact br_f (by decide) (g q)
theorem lo_br0 {m p : Nat} {A B : Prop} (hm : m < 32) (hp : p < 5) (f : m.testBit p = false → A) (g : m.testBit p = true → B) :
    (((nI m >>> (nI p &&& 31)) &&& 1) = 0 → A) ∧ (¬ ((nI m >>> (nI p &&& 31)) &&& 1) = 0 → B) := by
  rw [lo_bitY m hm p hp]
  cases q : m.testBit p with
  | true => exact br_f (by decide) (g q)
  | false => exact br_t rfl (f q)
theorem lo_v1 : vp_nar .boolean 1 = 1 := by
  show (1 : Int32) &&& 1 = 1
  decide
theorem lo_v0 : vp_nar .boolean 0 = 0 := by
  show (0 : Int32) &&& 1 = 0
  decide
theorem lo_vb (b : Bool) : vp_nar .boolean (lo_b b) = lo_b b := by
  cases b with
  | false => exact lo_v0
  | true => exact lo_v1
end
section
/-! the component's walks: states -/
section
variable {n L T H : Nat → Nat} {R W G M : Nat → Int32}
theorem xw_doneBy {post : Int32 → Prop} {x t : Nat} (hx : x < 4096) (ht : t < 4) (h : post (nI (lo_d x t))) : wpX_doneBy post (nI x) (nI t) := by
  unfold wpX_doneBy
  rw [lo_dI hx ht]
  exact h
theorem xw_cell {post : Int32 → Prop} {t d : Nat} (h : post (nI (t * 8 + d))) : wpX_cell post (nI t) (nI d) := by
  unfold wpX_cell
  rw [lo_cellI]
  exact h
theorem xw_oneBy {post : Int32 → Prop} {t : Nat} (ht : t < 4) (h : post (nI (lo_p t))) : wpX_oneBy post (nI t) := by
  unfold wpX_oneBy
  rw [lo_oneI t ht]
  exact h
theorem xw_ibo_l {post : Int32 → Prop} {x t p : Nat} (hx : x < 4096) (ht : t < 4) (hp : p < 5) (hH : ∀ j, H j < 32) (P : Nat → Bool)
    (hP : ∀ u, u < 4 → P u = (decide (u ≠ t) && (H (u * 8 + lo_d x u)).testBit p)) : ∀ d j, j + d = 4 → post (lo_b (lo_any P d j)) →
    wX_isHeldByOther_3 post (nI x) (nI t) (nI p) (lo_a n) (lo_a L) (lo_a T) (lo_a H) R W G M (d + 1) (nI j) := by
  intro d
  induction d with
  | zero => intro j hj h; exact br_t (nI_le (a := 4) (by omega) (by omega)) h
  | succ d ih =>
    intro j hj h
    have hd := lo_d_lt x j
    have e2 : lo_any P (d + 1) j = (P j || lo_any P d (j + 1)) := rfl
    rw [e2, hP j (by omega)] at h
    refine br_f (nI_ge (a := j) (b := 4) (by omega) (by decide)) ?_
    refine xw_doneBy hx (by omega) ?_
    refine xw_cell ?_
    refine pk_eq j t (fun e => ?_) (fun e => ?_) rfl rfl (by omega) (by omega)
    · rw [decide_eq_false (show ¬ (j ≠ t) from fun q => q e), Bool.false_and, Bool.false_or] at h
      exact nm_r (nI_1 j) (ih (j + 1) (by omega) h)
    · rw [decide_eq_true (show j ≠ t from e), Bool.true_and] at h
      refine ⟨pk_in (j * 8 + lo_d x j) 32 (by omega), lo_brb (lo_at H (by omega)) (hH _) hp (fun e3 => ?_) (fun e3 => ?_)⟩
      · rw [e3, Bool.false_or] at h
        exact nm_r (nI_1 j) (ih (j + 1) (by omega) h)
      · rw [e3, Bool.true_or] at h
        exact h
theorem xw_ibo {post : Int32 → Prop} {x t p : Nat} (hx : x < 4096) (ht : t < 4) (hp : p < 5) (hH : ∀ j, H j < 32)
    (h : post (lo_b (lo_any (fun u => decide (u ≠ t) && (H (u * 8 + lo_d x u)).testBit p) 4 0))) :
    wpX_isHeldByOther post (lo_a n, lo_a L, lo_a T, lo_a H, R, W, G, M) (nI x) (nI t) (nI p) := by
  unfold wpX_isHeldByOther
  exact ⟨5, xw_ibo_l hx ht hp hH _ (fun u _ => rfl) 4 0 rfl h⟩
/-- the bounds that the component's own data keep -/
def lo_Dx (n L T H : Nat → Nat) : Prop := (∀ t, t < 4 → n t ≤ 6) ∧ (∀ j, L j < 5) ∧ (∀ j, T j ≤ 1) ∧ (∀ j, H j < 32)
theorem xw_mayGoOn (D : lo_Dx n L T H) {post : Int32 → Prop} {x t : Nat} (hx : x < 4096) (ht : t < 4) (h : post (lo_b (lo_gX n L T H x t))) :
    wpX_mayGoOn post (lo_a n, lo_a L, lo_a T, lo_a H, R, W, G, M) (nI x) (nI t) := by
  obtain ⟨hn, hL, hT, hH⟩ := D
  unfold wpX_mayGoOn
  refine xw_doneBy hx ht ?_
  have hd := lo_d_lt x t
  have hn' := hn t ht
  have hT' := hT (t * 8 + lo_d x t)
  refine ⟨pk_in t 4 ht, ?_⟩
  refine pk_lt (lo_d x t) (n t) (fun e => ?_) (fun e => ?_) rfl (lo_at n (by omega)) (by omega) (by omega)
  · refine xw_cell ?_
    refine ⟨pk_in (t * 8 + lo_d x t) 32 (by omega), ?_⟩
    refine pk_eq (T (t * 8 + lo_d x t)) 0 (fun e2 => ?_) (fun e2 => ?_) (lo_at T (by omega)) rfl (by omega) (by decide)
    · have hg : lo_gX n L T H x t = true := by
        unfold lo_gX
        rw [decide_eq_true e, decide_eq_false (show ¬ T (t * 8 + lo_d x t) = 1 by omega)]
        rfl
      rw [hg] at h
      exact h
    · refine ⟨pk_in (t * 8 + lo_d x t) 32 (by omega), ?_⟩
      rw [lo_at L (show t * 8 + lo_d x t < 2 ^ 31 by omega)]
      refine xw_ibo hx ht (hL _) hH (lo_br (fun e3 => ?_) (fun e3 => ?_))
      · have hg : lo_gX n L T H x t = true := by
          unfold lo_gX
          rw [decide_eq_true e, e3, Bool.not_false, Bool.or_true]
          rfl
        rw [hg] at h
        exact h
      · have hg : lo_gX n L T H x t = false := by
          unfold lo_gX
          rw [decide_eq_true (show T (t * 8 + lo_d x t) = 1 by omega), e3, Bool.not_true, Bool.or_false, Bool.and_false]
        rw [hg] at h
        exact h
  · have hg : lo_gX n L T H x t = false := by
      unfold lo_gX
      rw [decide_eq_false (show ¬ lo_d x t < n t by omega), Bool.false_and]
    rw [hg] at h
    exact h
theorem lo_p_lt {n : Nat → Nat} (hn : ∀ t, t < 4 → n t ≤ 6) {x t : Nat} (hx : x < 4096) (ht : t < 4) (h : lo_d x t < n t) : x + lo_p t < 4096 := by
  have h6 := hn t ht
  have ht' : t = 0 ∨ t = 1 ∨ t = 2 ∨ t = 3 := by omega
  rcases ht' with rfl | rfl | rfl | rfl <;> simp only [lo_d0, lo_d1, lo_d2, lo_d3, lo_p0, lo_p1, lo_p2, lo_p3] at h ⊢ <;> omega
theorem xw_stepFrom (D : lo_Dx n L T H) {post : SX → Prop} {x : Nat} (hx : x < 4096)
    (h : post (lo_a n, lo_a L, lo_a T, lo_a H, (lo_s4 (lo_gX n L T H) lo_p x (R, W)).1, (lo_s4 (lo_gX n L T H) lo_p x (R, W)).2, G, M)) :
    wpX_stepFrom post (lo_a n, lo_a L, lo_a T, lo_a H, R, W, G, M) (nI x) := by
  unfold wpX_stepFrom
  refine ⟨5, lo_loop (fun f i (s : (Nat → Int32) × (Nat → Int32)) => wX_stepFrom_2 post (nI x) f (nI i) (lo_a n) (lo_a L) (lo_a T) (lo_a H) s.1 s.2 G M)
    (lo_s1 (lo_gX n L T H) lo_p x) (R, W) 4 (fun f => ?_) (fun f i hi k => ?_)⟩
  · exact br_t (nI_le (a := 4) (b := 4) (by omega) (by decide)) h
  · have k' : lo_F (lo_s1 (lo_gX n L T H) lo_p x) (R, W) (i + 1) = lo_s1 (lo_gX n L T H) lo_p x i (lo_F (lo_s1 (lo_gX n L T H) lo_p x) (R, W) i) := rfl
    try dsimp only at k ⊢
    rw [k'] at k
    generalize lo_F (lo_s1 (lo_gX n L T H) lo_p x) (R, W) i = s at k ⊢
    refine br_f (nI_ge (a := i) (b := 4) (by omega) (by decide)) ?_
    refine xw_mayGoOn D hx hi (lo_br (fun e => ?_) (fun e => ?_))
    · have k2 : lo_s1 (lo_gX n L T H) lo_p x i s = s := by
        unfold lo_s1
        rw [e, if_neg (by decide)]
      rw [k2] at k
      exact nm_r (nI_1 i) k
    · have k2 : lo_s1 (lo_gX n L T H) lo_p x i s = (upd s.1 (x + lo_p i) 1, upd s.2 (x + lo_p i) (lo_w (s.2 (x + lo_p i)) (s.2 x))) := by
        unfold lo_s1
        rw [e, if_pos rfl]
      rw [k2] at k
      have hlt := lo_p_lt D.1 hx hi (lo_gX_lt e)
      refine xw_oneBy hi ?_
      refine nm_r (nI_add x (lo_p i)) ?_
      refine ⟨pk_in (x + lo_p i) 4096 hlt, ?_⟩
      refine nm_r (e' := upd s.1 (x + lo_p i) 1) (by rw [nI_clamp (by omega), lo_v1]) ?_
      refine ⟨pk_in (x + lo_p i) 4096 hlt, pk_in x 4096 hx, by decide, pk_in (x + lo_p i) 4096 hlt, ?_⟩
      refine nm_r (e' := upd s.2 (x + lo_p i) (lo_w (s.2 (x + lo_p i)) (s.2 x))) (by rw [nI_clamp (n := x + lo_p i) (by omega), nI_clamp (n := x) (by omega)]; rfl) ?_
      exact nm_r (nI_1 i) k
def lo_cl (i : Nat) (s : (Nat → Int32) × (Nat → Int32)) : (Nat → Int32) × (Nat → Int32) := (upd s.1 i 0, upd s.2 i 0)
theorem lo_cl_0 (z : (Nat → Int32) × (Nat → Int32)) : ∀ N j, j < N → (lo_F lo_cl z N).1 j = 0 ∧ (lo_F lo_cl z N).2 j = 0 := by
  intro N
  induction N with
  | zero => intro j hj; exact absurd hj (Nat.not_lt_zero j)
  | succ N ih =>
    intro j hj
    show upd (lo_F lo_cl z N).1 N 0 j = 0 ∧ upd (lo_F lo_cl z N).2 N 0 j = 0
    by_cases e : j = N
    · rw [e, pk_us, pk_us]; exact ⟨rfl, rfl⟩
    · rw [pk_un e, pk_un e]; exact ih j (by omega)
theorem lo_cl_I (N : Nat) (v : (Nat → Int32) × (Nat → Int32)) (h : ∀ j, j < N → v.1 j = 0 ∧ v.2 j = 0) : lo_I0 N (upd v.1 0 1, upd v.2 0 1) := by
  intro j hj
  show upd v.1 0 1 j = _ ∧ upd v.2 0 1 j = _
  by_cases e : j = 0
  · rw [e, pk_us, pk_us, if_pos rfl]; exact ⟨rfl, rfl⟩
  · rw [pk_un e, pk_un e, if_neg e]; exact h j hj
theorem xw_explore (D : lo_Dx n L T H) {post : SX → Prop}
    (h : ∀ a, lo_I0 4096 a → post (lo_a n, lo_a L, lo_a T, lo_a H, (lo_ex (lo_gX n L T H) lo_p a 4096).1, (lo_ex (lo_gX n L T H) lo_p a 4096).2, G, M)) :
    wpX_explore post (lo_a n, lo_a L, lo_a T, lo_a H, R, W, G, M) := by
  unfold wpX_explore
  refine ⟨4097, lo_loop (fun f i (s : (Nat → Int32) × (Nat → Int32)) => wX_explore_2 post f (nI i) (lo_a n) (lo_a L) (lo_a T) (lo_a H) s.1 s.2 G M)
    lo_cl (R, W) 4096 (fun f => ?_) (fun f i hi k => ?_)⟩
  · have h1 := h _ (lo_cl_I 4096 _ (lo_cl_0 (R, W) 4096))
    generalize lo_F lo_cl (R, W) 4096 = s at h1 ⊢
    refine br_t (nI_le (a := 4096) (b := 4096) (by omega) (by decide)) ?_
    refine nm_r (e' := upd s.1 0 1) (by rw [lo_v1]) ?_
    refine nm_e ?_
    refine ⟨4097, lo_loop (fun f i (s : (Nat → Int32) × (Nat → Int32)) => wX_explore_45 post f (nI i) (lo_a n) (lo_a L) (lo_a T) (lo_a H) s.1 s.2 G M)
      (lo_fx (lo_gX n L T H) lo_p) (upd s.1 0 1, upd s.2 0 1) 4096 (fun f => ?_) (fun f i hi k => ?_)⟩
    · exact br_t (nI_le (a := 4096) (b := 4096) (by omega) (by decide)) h1
    · have k' : lo_F (lo_fx (lo_gX n L T H) lo_p) (upd s.1 0 1, upd s.2 0 1) (i + 1) = lo_fx (lo_gX n L T H) lo_p i (lo_F (lo_fx (lo_gX n L T H) lo_p) (upd s.1 0 1, upd s.2 0 1) i) := rfl
      try dsimp only at k ⊢
      rw [k'] at k
      generalize lo_F (lo_fx (lo_gX n L T H) lo_p) (upd s.1 0 1, upd s.2 0 1) i = w at k ⊢
      refine br_f (nI_ge (a := i) (b := 4096) (by omega) (by decide)) ?_
      refine ⟨pk_in i 4096 hi, ?_⟩
      rw [nI_clamp (show i < 2 ^ 31 by omega)]
      refine br_c (fun e => ?_) (fun e => ?_)
      · have k2 : lo_fx (lo_gX n L T H) lo_p i w = w := by
          unfold lo_fx
          rw [if_pos e]
        rw [k2] at k
        exact nm_r (nI_1 i) k
      · have k2 : lo_fx (lo_gX n L T H) lo_p i w = lo_s4 (lo_gX n L T H) lo_p i w := by
          unfold lo_fx
          rw [if_neg e]
        rw [k2] at k
        refine xw_stepFrom D hi ?_
        exact nm_r (nI_1 i) k
  · have k' : lo_F lo_cl (R, W) (i + 1) = lo_cl i (lo_F lo_cl (R, W) i) := rfl
    try dsimp only at k ⊢
    rw [k'] at k
    generalize lo_F lo_cl (R, W) i = s at k ⊢
    refine br_f (nI_ge (a := i) (b := 4096) (by omega) (by decide)) ?_
    refine ⟨pk_in i 4096 hi, ?_⟩
    refine nm_r (e' := upd s.1 i 0) (by rw [nI_clamp (by omega), lo_v0]) ?_
    refine ⟨pk_in i 4096 hi, ?_⟩
    refine nm_r (e' := upd s.2 i 0) (by rw [nI_clamp (by omega)]) ?_
    exact nm_r (nI_1 i) k
end
end
section
/-! the component's walks: questions on states -/
section
variable {n L T H : Nat → Nat} {R W G M : Nat → Int32}
/-- a sum over the threads -/
def lo_fs (n p : Nat → Nat) : Nat → Nat
  | 0 => 0
  | t + 1 => lo_fs n p t + n t * p t
theorem lo_fs_4 (n p : Nat → Nat) : lo_fs n p 4 = lo_fn n p := by
  show 0 + n 0 * p 0 + n 1 * p 1 + n 2 * p 2 + n 3 * p 3 = _
  rw [Nat.zero_add]
  rfl
theorem xw_fin {post : Int32 → Prop} (h : post (nI (lo_fn n lo_p))) :
    wpX_finishedState post (lo_a n, lo_a L, lo_a T, lo_a H, R, W, G, M) := by
  unfold wpX_finishedState
  refine ⟨5, lo_loopS (fun f i (s : Nat) => wX_finishedState_4 post (lo_a n) (lo_a L) (lo_a T) (lo_a H) R W G M f (nI s) (nI i)) (lo_fs n lo_p) 4 (fun f => ?_) (fun f i hi k => ?_)⟩
  · rw [← lo_fs_4] at h
    exact br_t (nI_le (a := 4) (b := 4) (by omega) (by decide)) h
  · try dsimp only at k ⊢
    refine br_f (nI_ge (a := i) (b := 4) (by omega) (by decide)) ?_
    refine ⟨pk_in i 4 hi, ?_⟩
    refine xw_oneBy hi ?_
    refine nm_r (e' := nI (lo_fs n lo_p (i + 1))) ?_ (nm_r (nI_1 i) k)
    rw [lo_at n (by omega), pk_mul, nI_add]
    rfl
theorem xw_stuck_l (D : lo_Dx n L T H) {post : Int32 → Prop} {x : Nat} (hx : x < 4096) : ∀ d j, j + d = 4 → post (lo_b (!lo_any (fun t => lo_gX n L T H x t) d j)) →
    wX_isStuck_21 post (nI x) (lo_a n) (lo_a L) (lo_a T) (lo_a H) R W G M (d + 1) (nI j) := by
  intro d
  induction d with
  | zero => intro j hj h; exact br_t (nI_le (a := 4) (by omega) (by omega)) h
  | succ d ih =>
    intro j hj h
    have e2 : lo_any (fun t => lo_gX n L T H x t) (d + 1) j = (lo_gX n L T H x j || lo_any (fun t => lo_gX n L T H x t) d (j + 1)) := rfl
    rw [e2] at h
    refine br_f (nI_ge (a := j) (b := 4) (by omega) (by decide)) ?_
    refine xw_mayGoOn D hx (by omega) (lo_br (fun e => ?_) (fun e => ?_))
    · rw [e, Bool.false_or] at h
      exact nm_r (nI_1 j) (ih (j + 1) (by omega) h)
    · rw [e, Bool.true_or] at h
      exact h
theorem xw_isStuck (D : lo_Dx n L T H) {post : Int32 → Prop} {x : Nat} (hx : x < 4096) (h : post (lo_b (lo_sk R (lo_gX n L T H) (lo_fn n lo_p) x))) :
    wpX_isStuck post (lo_a n, lo_a L, lo_a T, lo_a H, R, W, G, M) (nI x) := by
  unfold wpX_isStuck
  refine ⟨pk_in x 4096 hx, ?_⟩
  rw [nI_clamp (show x < 2 ^ 31 by omega)]
  unfold lo_sk at h
  refine br_c (fun e => ?_) (fun e => ?_)
  · rw [decide_eq_false (show ¬ (R x ≠ 0) from fun q => q e), Bool.false_and] at h
    exact h
  · rw [decide_eq_true (show R x ≠ 0 from e), Bool.true_and] at h
    have hf := (lo_fnX D.1).1
    refine xw_fin ?_
    refine pk_eq x (lo_fn n lo_p) (fun e2 => ?_) (fun e2 => ?_) rfl rfl (by omega) (by omega)
    · rw [decide_eq_false (show ¬ (x ≠ lo_fn n lo_p) from fun q => q e2), Bool.false_and] at h
      exact h
    · rw [decide_eq_true (show x ≠ lo_fn n lo_p from e2), Bool.true_and] at h
      exact ⟨5, xw_stuck_l D hx 4 0 rfl h⟩
theorem xw_cnt1 {post : Int32 → SX → Prop} (P : Nat → Bool) (hP : ∀ x, x < 4096 → P x = decide (R x ≠ 0)) (h : post (nI (lo_c P 4096)) (lo_a n, lo_a L, lo_a T, lo_a H, R, W, G, M)) :
    wX_states_8 post (lo_a n) (lo_a L) (lo_a T) (lo_a H) R W G M 4097 0 0 := by
  refine lo_loopS (fun f i (s : Nat) => wX_states_8 post (lo_a n) (lo_a L) (lo_a T) (lo_a H) R W G M f (nI s) (nI i)) (lo_c P) 4096 (fun f => ?_) (fun f i hi k => ?_)
  · exact br_t (nI_le (a := 4096) (b := 4096) (by omega) (by decide)) h
  · try dsimp only at k ⊢
    rw [lo_c_s, hP i hi] at k
    refine br_f (nI_ge (a := i) (b := 4096) (by omega) (by decide)) ?_
    refine ⟨pk_in i 4096 hi, ?_⟩
    rw [nI_clamp (show i < 2 ^ 31 by omega)]
    refine br_c (fun e => ?_) (fun e => ?_)
    · rw [decide_eq_false (show ¬ (R i ≠ 0) from fun q => q e), if_neg (by decide)] at k
      exact nm_r (nI_1 i) k
    · rw [decide_eq_true (show R i ≠ 0 from e), if_pos rfl] at k
      exact nm_r (nI_1 _) (nm_r (nI_1 i) k)
theorem xw_cnt2 {post : Int32 → SX → Prop} (P : Nat → Bool) (hP : ∀ x, x < 4096 → P x = decide (G x ≠ 0)) (h : post (nI (lo_c P 4096)) (lo_a n, lo_a L, lo_a T, lo_a H, R, W, G, M)) :
    wX_rings_8 post (lo_a n) (lo_a L) (lo_a T) (lo_a H) R W G M 4097 0 0 := by
  refine lo_loopS (fun f i (s : Nat) => wX_rings_8 post (lo_a n) (lo_a L) (lo_a T) (lo_a H) R W G M f (nI s) (nI i)) (lo_c P) 4096 (fun f => ?_) (fun f i hi k => ?_)
  · exact br_t (nI_le (a := 4096) (b := 4096) (by omega) (by decide)) h
  · try dsimp only at k ⊢
    rw [lo_c_s, hP i hi] at k
    refine br_f (nI_ge (a := i) (b := 4096) (by omega) (by decide)) ?_
    refine ⟨pk_in i 4096 hi, ?_⟩
    rw [nI_clamp (show i < 2 ^ 31 by omega)]
    refine br_c (fun e => ?_) (fun e => ?_)
    · rw [decide_eq_false (show ¬ (G i ≠ 0) from fun q => q e), if_neg (by decide)] at k
      exact nm_r (nI_1 i) k
    · rw [decide_eq_true (show G i ≠ 0 from e), if_pos rfl] at k
      exact nm_r (nI_1 _) (nm_r (nI_1 i) k)
theorem xw_cnt3 {post : Int32 → SX → Prop} (P : Nat → Bool) (hP : ∀ x, x < 4096 → P x = decide (M x ≠ 0)) (h : post (nI (lo_c P 4096)) (lo_a n, lo_a L, lo_a T, lo_a H, R, W, G, M)) :
    wX_ringsMet_16 post (lo_a n) (lo_a L) (lo_a T) (lo_a H) R W G M 4097 0 0 := by
  refine lo_loopS (fun f i (s : Nat) => wX_ringsMet_16 post (lo_a n) (lo_a L) (lo_a T) (lo_a H) R W G M f (nI s) (nI i)) (lo_c P) 4096 (fun f => ?_) (fun f i hi k => ?_)
  · exact br_t (nI_le (a := 4096) (b := 4096) (by omega) (by decide)) h
  · try dsimp only at k ⊢
    rw [lo_c_s, hP i hi] at k
    refine br_f (nI_ge (a := i) (b := 4096) (by omega) (by decide)) ?_
    refine ⟨pk_in i 4096 hi, ?_⟩
    rw [nI_clamp (show i < 2 ^ 31 by omega)]
    refine br_c (fun e => ?_) (fun e => ?_)
    · rw [decide_eq_false (show ¬ (M i ≠ 0) from fun q => q e), if_neg (by decide)] at k
      exact nm_r (nI_1 i) k
    · rw [decide_eq_true (show M i ≠ 0 from e), if_pos rfl] at k
      exact nm_r (nI_1 _) (nm_r (nI_1 i) k)
theorem xw_cnt4 (D : lo_Dx n L T H) {post : Int32 → SX → Prop} (h : post (nI (lo_c (fun x => lo_sk R (lo_gX n L T H) (lo_fn n lo_p) x) 4096)) (lo_a n, lo_a L, lo_a T, lo_a H, R, W, G, M)) :
    wX_stuck_8 post (lo_a n) (lo_a L) (lo_a T) (lo_a H) R W G M 4097 0 0 := by
  refine lo_loopS (fun f i (s : Nat) => wX_stuck_8 post (lo_a n) (lo_a L) (lo_a T) (lo_a H) R W G M f (nI s) (nI i)) (lo_c (fun x => lo_sk R (lo_gX n L T H) (lo_fn n lo_p) x)) 4096 (fun f => ?_) (fun f i hi k => ?_)
  · exact br_t (nI_le (a := 4096) (b := 4096) (by omega) (by decide)) h
  · try dsimp only at k ⊢
    rw [lo_c_s] at k
    refine br_f (nI_ge (a := i) (b := 4096) (by omega) (by decide)) ?_
    refine xw_isStuck D hi (lo_br (fun e => ?_) (fun e => ?_))
    · rw [if_neg (by rw [e]; decide)] at k
      exact nm_r (nI_1 i) k
    · rw [if_pos e] at k
      exact nm_r (nI_1 _) (nm_r (nI_1 i) k)
/-- an answer of stuckAt -/
def lo_an (o : Option Int32) : Int32 := match o with
  | some r => r
  | none => -4
theorem xw_at (D : lo_Dx n L T H) {post : Int32 → SX → Prop} (i : Int32) {t : Nat} (ht : t < 4)
    (h : post (lo_an (lo_fo (fun x => lo_sk R (lo_gX n L T H) (lo_fn n lo_p) x) (fun x => nI (lo_d x t)) i 4096)) (lo_a n, lo_a L, lo_a T, lo_a H, R, W, G, M)) :
    wX_stuckAt_18 post i (nI t) (lo_a n) (lo_a L) (lo_a T) (lo_a H) R W G M 4097 0 0 := by
  have key : ∀ d j, j + d = 4096 → lo_fo (fun x => lo_sk R (lo_gX n L T H) (lo_fn n lo_p) x) (fun x => nI (lo_d x t)) i j = none →
      wX_stuckAt_18 post i (nI t) (lo_a n) (lo_a L) (lo_a T) (lo_a H) R W G M (d + 1) (nI (lo_c (fun x => lo_sk R (lo_gX n L T H) (lo_fn n lo_p) x) j)) (nI j) := by
    intro d
    induction d with
    | zero =>
      intro j hj hn
      have ej : j = 4096 := by omega
      subst ej
      rw [hn] at h
      exact br_t (nI_le (a := 4096) (b := 4096) (by omega) (by decide)) h
    | succ d ih =>
      intro j hj hn
      have e1 : lo_fo (fun x => lo_sk R (lo_gX n L T H) (lo_fn n lo_p) x) (fun x => nI (lo_d x t)) i (j + 1) = lo_ff (fun x => lo_sk R (lo_gX n L T H) (lo_fn n lo_p) x) (fun x => nI (lo_d x t)) i j (lo_fo (fun x => lo_sk R (lo_gX n L T H) (lo_fn n lo_p) x) (fun x => nI (lo_d x t)) i j) := rfl
      rw [hn] at e1
      have e2 : lo_fo (fun x => lo_sk R (lo_gX n L T H) (lo_fn n lo_p) x) (fun x => nI (lo_d x t)) i (j + 1) = if lo_sk R (lo_gX n L T H) (lo_fn n lo_p) j = true then (if nI (lo_c (fun x => lo_sk R (lo_gX n L T H) (lo_fn n lo_p) x) j) = i then some (nI (lo_d j t)) else none) else none := e1
      have hs : lo_c (fun x => lo_sk R (lo_gX n L T H) (lo_fn n lo_p) x) (j + 1) = if lo_sk R (lo_gX n L T H) (lo_fn n lo_p) j = true then lo_c (fun x => lo_sk R (lo_gX n L T H) (lo_fn n lo_p) x) j + 1 else lo_c (fun x => lo_sk R (lo_gX n L T H) (lo_fn n lo_p) x) j := rfl
      have ih2 := ih (j + 1) (by omega)
      refine br_f (nI_ge (a := j) (b := 4096) (by omega) (by decide)) ?_
      refine xw_isStuck D (by omega) (lo_br (fun e => ?_) (fun e => ?_))
      · have e' : ¬ lo_sk R (lo_gX n L T H) (lo_fn n lo_p) j = true := by rw [e]; decide
        rw [if_neg e'] at e2 hs
        rw [hs] at ih2
        exact nm_r (nI_1 j) (ih2 e2)
      · rw [if_pos e] at e2 hs
        rw [hs] at ih2
        refine br_c (fun e3 => ?_) (fun e3 => ?_)
        · rw [if_pos e3] at e2
          rw [lo_fo_some _ _ _ e2 4096 (by omega)] at h
          exact xw_doneBy (by omega) ht h
        · rw [if_neg e3] at e2
          exact nm_r (nI_1 _) (nm_r (nI_1 j) (ih2 e2))
  exact key 4096 0 rfl rfl
/-- a number of a range, or not -/
theorem xw_isThread {post : Int32 → Prop} (t : Int32) (h0 : t < 0 ∨ nI 4 ≤ t → post 0) (h1 : ∀ j, j < 4 → t = nI j → post 1) : wpX_isThread post t := by
  unfold wpX_isThread
  refine br_c (fun e => h0 (Or.inl e)) (fun e => ?_)
  obtain ⟨j, hj, rfl⟩ := nI_of e
  refine pk_le 4 j (fun e2 => h0 (Or.inr (nI_le e2 hj))) (fun e2 => h1 j e2 rfl) rfl rfl (by decide) hj
theorem xw_isLock {post : Int32 → Prop} (t : Int32) (h0 : t < 0 ∨ nI 5 ≤ t → post 0) (h1 : ∀ j, j < 5 → t = nI j → post 1) : wpX_isLock post t := by
  unfold wpX_isLock
  refine br_c (fun e => h0 (Or.inl e)) (fun e => ?_)
  obtain ⟨j, hj, rfl⟩ := nI_of e
  refine pk_le 5 j (fun e2 => h0 (Or.inr (nI_le e2 hj))) (fun e2 => h1 j e2 rfl) rfl rfl (by decide) hj
theorem xw_isCount {post : Int32 → Prop} (t : Int32) (h0 : t < 0 ∨ nI 7 ≤ t → post 0) (h1 : ∀ j, j < 7 → t = nI j → post 1) : wpX_isCount post t := by
  unfold wpX_isCount
  refine br_c (fun e => h0 (Or.inl e)) (fun e => ?_)
  obtain ⟨j, hj, rfl⟩ := nI_of e
  refine pk_lt 6 j (fun e2 => h0 (Or.inr (nI_le (by omega) hj))) (fun e2 => h1 j (by omega) rfl) rfl rfl (by decide) hj
end
end
section
/-! the component's walks: rings -/
section
variable {n L T H : Nat → Nat} {R W G M : Nat → Int32}
theorem xw_isRequest (D : lo_Dx n L T H) {post : Int32 → Prop} {t d : Nat} (ht : t < 4) (hd : d < 8) (h : post (lo_b (lo_rqX n T H t d))) :
    wpX_isRequest post (lo_a n, lo_a L, lo_a T, lo_a H, R, W, G, M) (nI t) (nI d) := by
  unfold wpX_isRequest
  unfold lo_rqX at h
  have hn := D.1 t ht
  have hT := D.2.2.1 (t * 8 + d)
  have hH := D.2.2.2 (t * 8 + d)
  refine xw_cell ?_
  refine ⟨pk_in t 4 ht, ?_⟩
  refine pk_le (n t) d (fun e => ?_) (fun e => ?_) (lo_at n (by omega)) rfl (by omega) (by omega)
  · rw [decide_eq_false (show ¬ d < n t by omega), Bool.false_and] at h
    exact h
  · rw [decide_eq_true e, Bool.true_and] at h
    refine ⟨pk_in (t * 8 + d) 32 (by omega), ?_⟩
    refine pk_eq (T (t * 8 + d)) 0 (fun e2 => ?_) (fun e2 => ?_) (lo_at T (by omega)) rfl (by omega) (by decide)
    · rw [decide_eq_false (show ¬ T (t * 8 + d) = 1 by omega), Bool.false_and] at h
      exact h
    · rw [decide_eq_true (show T (t * 8 + d) = 1 by omega), Bool.true_and] at h
      refine ⟨pk_in (t * 8 + d) 32 (by omega), ?_⟩
      refine pk_eq (H (t * 8 + d)) 0 (fun e3 => ?_) (fun e3 => ?_) (lo_at H (by omega)) rfl (by omega) (by decide)
      · rw [decide_eq_false (show ¬ (H (t * 8 + d) ≠ 0) from fun q => q e3)] at h
        exact h
      · rw [decide_eq_true (show H (t * 8 + d) ≠ 0 from e3)] at h
        exact h
/-- a thread, or nobody -/
def lo_nb (k : Nat) : Int32 := if k = 4 then -1 else nI k
theorem lo_nb4 : lo_nb 4 = -1 := rfl
theorem lo_nbn {k : Nat} (h : k ≠ 4) : lo_nb k = nI k := if_neg h
theorem lo_m1 {k : Nat} (h : k < 4) : ¬ nI k = -1 := by
  intro q
  have q2 := congrArg Int32.toInt q
  rw [nI_toInt (by omega), show (-1 : Int32).toInt = -1 from by decide] at q2
  omega
theorem xw_how_l (D : lo_Dx n L T H) {post : Int32 → Prop} {r c p : Nat} (hr : r < 4096) (hc : c < 32) (hp : L c = p) (P : Nat → Bool)
    (hP : ∀ u, u < 4 → P u = (decide (lo_d r u ≠ 7) && (H (u * 8 + lo_d r u)).testBit p)) : ∀ d j, j + d = 4 → post (lo_nb (lo_fst P d j)) →
    wX_holderOfWanted_16 post (nI r) (nI c) (lo_a n) (lo_a L) (lo_a T) (lo_a H) R W G M (d + 1) (nI j) := by
  intro d
  induction d with
  | zero => intro j hj h; exact br_t (nI_le (a := 4) (by omega) (by omega)) h
  | succ d ih =>
    intro j hj h
    have hd := lo_d_lt r j
    have hH := D.2.2.2 (j * 8 + lo_d r j)
    have hL := D.2.1 c
    have e2 : lo_fst P (d + 1) j = if P j = true then j else lo_fst P d (j + 1) := rfl
    rw [e2, hP j (by omega)] at h
    refine br_f (nI_ge (a := j) (b := 4) (by omega) (by decide)) ?_
    refine xw_doneBy hr (by omega) ?_
    refine xw_cell ?_
    refine pk_eq (lo_d r j) 7 (fun e => ?_) (fun e => ?_) rfl rfl (by omega) (by decide)
    · rw [decide_eq_false (show ¬ (lo_d r j ≠ 7) from fun q => q e), Bool.false_and, if_neg (by decide)] at h
      exact nm_r (nI_1 j) (ih (j + 1) (by omega) h)
    · rw [decide_eq_true (show lo_d r j ≠ 7 from e), Bool.true_and] at h
      refine ⟨pk_in (j * 8 + lo_d r j) 32 (by omega), pk_in c 32 hc, ?_⟩
      rw [lo_at L (show c < 2 ^ 31 by omega), hp]
      refine lo_brb (lo_at H (by omega)) hH (by omega) (fun e3 => ?_) (fun e3 => ?_)
      · rw [e3, if_neg (by decide)] at h
        exact nm_r (nI_1 j) (ih (j + 1) (by omega) h)
      · rw [e3, if_pos rfl, lo_nbn (by omega)] at h
        exact h
theorem xw_how (D : lo_Dx n L T H) {post : Int32 → Prop} {r t : Nat} (hr : r < 4096) (ht : t < 4) (h : post (lo_nb (lo_nX L H r t))) :
    wpX_holderOfWanted post (lo_a n, lo_a L, lo_a T, lo_a H, R, W, G, M) (nI r) (nI t) := by
  unfold wpX_holderOfWanted
  have hd := lo_d_lt r t
  refine xw_doneBy hr ht ?_
  refine xw_cell ?_
  exact ⟨5, xw_how_l D hr (by omega) rfl _ (fun u _ => rfl) 4 0 rfl h⟩
theorem lo_nX_or (L H : Nat → Nat) (r t : Nat) : lo_nX L H r t = 4 ∨ lo_nX L H r t < 4 := by
  rcases lo_fst_or (fun u => decide (lo_d r u ≠ 7) && (H (u * 8 + lo_d r u)).testBit (L (t * 8 + lo_d r t))) with h | h
  · exact Or.inl h
  · exact Or.inr h.1
theorem xw_around (D : lo_Dx n L T H) {post : Int32 → Prop} {r f size : Nat} (hr : r < 4096) (hf : f < 4) (hs : size ≤ 4) : ∀ d k t, d + k = size + 1 → t < 4 →
    post (lo_b (lo_rx (lo_nX L H r) f size d k t)) → wX_comesAround_6 post (nI r) (nI f) (nI size) (lo_a n) (lo_a L) (lo_a T) (lo_a H) R W G M (d + 1) (nI t) (nI k) := by
  intro d
  induction d with
  | zero => intro k t hk ht h; exact br_t (nI_lt (by omega) (by omega)) h
  | succ d ih =>
    intro k t hk ht h
    have e2 : lo_rx (lo_nX L H r) f size (d + 1) k t = if lo_nX L H r t = 4 then false else if lo_nX L H r t = f then decide (k = size) else lo_rx (lo_nX L H r) f size d (k + 1) (lo_nX L H r t) := rfl
    rw [e2] at h
    refine br_f (nI_nlt (by omega) (by omega)) ?_
    refine xw_how D hr ht ?_
    rcases lo_nX_or L H r t with e | e
    · rw [if_pos e] at h
      rw [e]
      exact br_t lo_nb4 h
    · have e4 : lo_nX L H r t ≠ 4 := by omega
      rw [if_neg e4] at h
      rw [lo_nbn e4]
      refine br_f (lo_m1 e) ?_
      refine pk_eq (lo_nX L H r t) f (fun e5 => ?_) (fun e5 => ?_) rfl rfl (by omega) (by omega)
      · rw [if_pos e5] at h
        refine pk_eq k size (fun e6 => ?_) (fun e6 => ?_) rfl rfl (by omega) (by omega)
        · rw [decide_eq_true e6] at h; exact h
        · rw [decide_eq_false e6] at h; exact h
      · rw [if_neg e5] at h
        exact nm_r (nI_1 k) (ih (k + 1) _ (by omega) e h)
theorem xw_forms_l (D : lo_Dx n L T H) {post : Int32 → Prop} {r : Nat} (hr : r < 4096) (h : post (lo_b (lo_rX n L T H r))) : ∀ d j v, j + d = 4 → lo_fX n T H r j = some v →
    wX_formsRing_10 post (nI r) (lo_a n) (lo_a L) (lo_a T) (lo_a H) R W G M (d + 1) (nI v.1) (nI v.2.1) (lo_nb v.2.2) (nI j) := by
  intro d
  induction d with
  | zero =>
    intro j v hj hv
    have ej : j = 4 := by omega
    subst ej
    obtain ⟨_, _, _, i4, i5, _⟩ := lo_r4_inv _ _ _ 4 v hv
    unfold lo_rX at h
    rw [hv] at h
    have h' : post (lo_b (decide (2 ≤ v.2.1) && lo_rx (lo_nX L H r) v.2.2 v.2.1 v.2.1 1 v.2.2)) := h
    refine br_t (nI_le (a := 4) (b := 4) (by omega) (by decide)) ?_
    refine pk_lt v.2.1 2 (fun e => ?_) (fun e => ?_) rfl rfl (by omega) (by decide)
    · rw [decide_eq_false (show ¬ 2 ≤ v.2.1 by omega), Bool.false_and] at h'
      exact h'
    · rw [decide_eq_true e, Bool.true_and] at h'
      obtain ⟨i6, _⟩ := i5 (by omega)
      rw [lo_nbn (show v.2.2 ≠ 4 by omega)]
      unfold wpX_comesAround
      refine ⟨v.2.1 + 1, xw_around D hr i6 i4 v.2.1 1 v.2.2 rfl i6 ?_⟩
      refine lo_br (fun e2 => ?_) (fun e2 => ?_)
      · rw [e2] at h'; exact h'
      · rw [e2] at h'; exact h'
  | succ d ih =>
    intro j v hj hv
    have hd := lo_d_lt r j
    have hH := D.2.2.2 (j * 8 + lo_d r j)
    have e1 : lo_fX n T H r (j + 1) = lo_r1 (lo_slX r) (fun t => lo_rqX n T H t (lo_d r t)) (fun t => H (t * 8 + lo_d r t)) j (lo_fX n T H r j) := rfl
    rw [hv] at e1
    have e2 : lo_fX n T H r (j + 1) = if lo_slX r j = true then (if lo_rqX n T H j (lo_d r j) = true then (if v.1 &&& H (j * 8 + lo_d r j) = 0 then some (v.1 ||| H (j * 8 + lo_d r j), v.2.1 + 1, j) else none) else none) else some v := e1
    have hno : lo_fX n T H r (j + 1) = none → post 0 := by
      intro q
      have q4 : lo_fX n T H r 4 = none := lo_r4_none _ _ _ q 4 (by omega)
      unfold lo_rX at h
      rw [q4] at h
      exact h
    refine br_f (nI_ge (a := j) (b := 4) (by omega) (by decide)) ?_
    refine xw_doneBy hr (by omega) ?_
    refine pk_eq (lo_d r j) 7 (fun e => ?_) (fun e => ?_) rfl rfl (by omega) (by decide)
    · have hs : ¬ lo_slX r j = true := by
        unfold lo_slX
        rw [decide_eq_true_eq]
        exact fun q => q e
      rw [if_neg hs] at e2
      exact nm_r (nI_1 j) (ih (j + 1) v (by omega) e2)
    · have hs : lo_slX r j = true := decide_eq_true e
      rw [if_pos hs] at e2
      refine xw_cell ?_
      refine xw_isRequest D (by omega) hd ?_
      refine lo_br (fun e3 => ?_) (fun e3 => ?_)
      · rw [if_neg (by rw [e3]; decide)] at e2
        exact hno e2
      · rw [if_pos e3] at e2
        refine ⟨pk_in (j * 8 + lo_d r j) 32 (by omega), ?_⟩
        rw [lo_at H (show j * 8 + lo_d r j < 2 ^ 31 by omega), lo_andI]
        have hle : v.1 &&& H (j * 8 + lo_d r j) ≤ H (j * 8 + lo_d r j) := Nat.and_le_right
        refine pk_eq (v.1 &&& H (j * 8 + lo_d r j)) 0 (fun e4 => ?_) (fun e4 => ?_) rfl rfl (by omega) (by decide)
        · rw [if_pos e4] at e2
          refine ⟨pk_in (j * 8 + lo_d r j) 32 (by omega), ?_⟩
          have k := ih (j + 1) _ (by omega) e2
          rw [lo_nbn (show j ≠ 4 by omega)] at k
          exact nm_r (lo_or2 _ _) (nm_r (nI_1 _) (nm_r (nI_1 j) k))
        · rw [if_neg e4] at e2
          exact hno e2
theorem xw_forms (D : lo_Dx n L T H) {post : Int32 → Prop} {r : Nat} (hr : r < 4096) (h : post (lo_b (lo_rX n L T H r))) :
    wpX_formsRing post (lo_a n, lo_a L, lo_a T, lo_a H, R, W, G, M) (nI r) := by
  unfold wpX_formsRing
  exact ⟨5, xw_forms_l D hr h 4 0 (0, 0, 4) rfl rfl⟩
def lo_gr (n L T H : Nat → Nat) (i : Nat) (g : Nat → Int32) : Nat → Int32 := upd g i (lo_b (lo_rX n L T H i))
theorem lo_gr_v (n L T H : Nat → Nat) (g : Nat → Int32) : ∀ N j, j < N → lo_F (lo_gr n L T H) g N j = lo_b (lo_rX n L T H j) := by
  intro N
  induction N with
  | zero => intro j hj; exact absurd hj (Nat.not_lt_zero j)
  | succ N ih =>
    intro j hj
    show upd (lo_F (lo_gr n L T H) g N) N (lo_b (lo_rX n L T H N)) j = _
    by_cases e : j = N
    · rw [e, pk_us]
    · rw [pk_un e]; exact ih j (by omega)
theorem xw_findRings (D : lo_Dx n L T H) {post : SX → Prop}
    (h : ∀ G', (∀ r, r < 4096 → G' r = lo_b (lo_rX n L T H r)) → post (lo_a n, lo_a L, lo_a T, lo_a H, R, W, G', M)) :
    wpX_findRings post (lo_a n, lo_a L, lo_a T, lo_a H, R, W, G, M) := by
  unfold wpX_findRings
  refine ⟨4097, lo_loop (fun f i (s : Nat → Int32) => wX_findRings_2 post f (nI i) (lo_a n) (lo_a L) (lo_a T) (lo_a H) R W s M)
    (lo_gr n L T H) G 4096 (fun f => ?_) (fun f i hi k => ?_)⟩
  · exact br_t (nI_le (a := 4096) (b := 4096) (by omega) (by decide)) (h _ (lo_gr_v n L T H G 4096))
  · have k' : lo_F (lo_gr n L T H) G (i + 1) = upd (lo_F (lo_gr n L T H) G i) i (lo_b (lo_rX n L T H i)) := rfl
    try dsimp only at k ⊢
    rw [k'] at k
    generalize lo_F (lo_gr n L T H) G i = s at k ⊢
    refine br_f (nI_ge (a := i) (b := 4096) (by omega) (by decide)) ?_
    refine xw_forms D hi ?_
    refine ⟨pk_in i 4096 hi, ?_⟩
    refine nm_r (e' := upd s i (lo_b (lo_rX n L T H i))) (by rw [nI_clamp (by omega), lo_vb]) ?_
    exact nm_r (nI_1 i) k
end
end
section
/-! the component's walks: rings that are met -/
section
variable {n L T H : Nat → Nat} {R W G M : Nat → Int32}
def lo_nd (s k t : Nat) : Nat := if k.testBit t = true then lo_d s t else 7
theorem lo_nd_na (s k : Nat) : lo_fs (lo_nd s k) lo_p 4 = lo_na s k := by
  rw [lo_fs_4]
  show lo_nd s k 0 * 512 + lo_nd s k 1 * 64 + lo_nd s k 2 * 8 + lo_nd s k 3 * 1 = _
  rw [Nat.mul_one]
  rfl
theorem xw_next {post : Int32 → Prop} {s k : Nat} (hs : s < 4096) (hk : k < 16) (h : post (nI (lo_na s k))) : wpX_nextActions post (nI s) (nI k) := by
  unfold wpX_nextActions
  refine ⟨5, lo_loopS (fun f i (z : Nat) => wX_nextActions_4 post (nI s) (nI k) f (nI z) (nI i)) (lo_fs (lo_nd s k) lo_p) 4 (fun f => ?_) (fun f i hi q => ?_)⟩
  · rw [← lo_nd_na] at h
    exact br_t (nI_le (a := 4) (b := 4) (by omega) (by decide)) h
  · try dsimp only at q ⊢
    have hb := lo_bit16 k hk i hi
    refine br_f (nI_ge (a := i) (b := 4) (by omega) (by decide)) ?_
    refine br_c (fun e => ?_) (fun e => ?_)
    · have en : lo_nd s k i = 7 := if_neg (by rw [hb.mp e]; decide)
      unfold wX_nextActions_27
      refine xw_oneBy hi ?_
      refine nm_r (e' := nI (lo_fs (lo_nd s k) lo_p (i + 1))) ?_ (nm_r (nI_1 i) q)
      show nI (lo_fs (lo_nd s k) lo_p i) + nI 7 * nI (lo_p i) = nI (lo_fs (lo_nd s k) lo_p i + lo_nd s k i * lo_p i)
      rw [en, pk_mul, nI_add]
    · have et : k.testBit i = true := by
        cases q2 : k.testBit i with
        | true => rfl
        | false => exact absurd (hb.mpr q2) e
      have en : lo_nd s k i = lo_d s i := if_pos et
      refine xw_doneBy hs hi ?_
      unfold wX_nextActions_27
      refine xw_oneBy hi ?_
      refine nm_r (e' := nI (lo_fs (lo_nd s k) lo_p (i + 1))) ?_ (nm_r (nI_1 i) q)
      show nI (lo_fs (lo_nd s k) lo_p i) + nI (lo_d s i) * nI (lo_p i) = nI (lo_fs (lo_nd s k) lo_p i + lo_nd s k i * lo_p i)
      rw [en, pk_mul, nI_add]
def lo_mm (G : Nat → Int32) (s k : Nat) (m : Nat → Int32) : Nat → Int32 := if G (lo_na s k) = 0 then m else upd m (lo_na s k) 1
theorem lo_mm_iff (G : Nat → Int32) (s : Nat) (m : Nat → Int32) (r : Nat) : ∀ K, lo_F (lo_mm G s) m K r ≠ 0 ↔ (m r ≠ 0 ∨ (G r ≠ 0 ∧ ∃ k, k < K ∧ r = lo_na s k)) := by
  intro K
  induction K with
  | zero =>
    constructor
    · intro h; exact Or.inl h
    · rintro (h | ⟨_, k, hk, _⟩)
      · exact h
      · exact absurd hk (Nat.not_lt_zero k)
  | succ K ih =>
    show lo_mm G s K (lo_F (lo_mm G s) m K) r ≠ 0 ↔ _
    unfold lo_mm
    by_cases e : G (lo_na s K) = 0
    · rw [if_pos e]
      refine Iff.trans ih ?_
      constructor
      · rintro (h | ⟨h, k, hk, hr⟩)
        · exact Or.inl h
        · exact Or.inr ⟨h, k, by omega, hr⟩
      · rintro (h | ⟨h, k, hk, hr⟩)
        · exact Or.inl h
        · by_cases ek : k = K
          · subst ek; rw [hr] at h; exact absurd e h
          · exact Or.inr ⟨h, k, by omega, hr⟩
    · rw [if_neg e]
      by_cases er : r = lo_na s K
      · rw [er, pk_us]
        constructor
        · intro _; exact Or.inr ⟨e, K, by omega, rfl⟩
        · intro _; decide
      · rw [pk_un er]
        refine Iff.trans ih ?_
        constructor
        · rintro (h | ⟨h, k, hk, hr⟩)
          · exact Or.inl h
          · exact Or.inr ⟨h, k, by omega, hr⟩
        · rintro (h | ⟨h, k, hk, hr⟩)
          · exact Or.inl h
          · by_cases ek : k = K
            · subst ek; exact absurd hr er
            · exact Or.inr ⟨h, k, by omega, hr⟩
def lo_mf (R G : Nat → Int32) (s : Nat) (m : Nat → Int32) : Nat → Int32 := if R s = 0 then m else lo_F (lo_mm G s) m 16
theorem lo_mf_iff (R G m : Nat → Int32) (r : Nat) : ∀ N, lo_F (lo_mf R G) m N r ≠ 0 ↔ (m r ≠ 0 ∨ (G r ≠ 0 ∧ ∃ s, s < N ∧ R s ≠ 0 ∧ ∃ k, k < 16 ∧ r = lo_na s k)) := by
  intro N
  induction N with
  | zero =>
    constructor
    · intro h; exact Or.inl h
    · rintro (h | ⟨_, k, hk, _⟩)
      · exact h
      · exact absurd hk (Nat.not_lt_zero k)
  | succ N ih =>
    show lo_mf R G N (lo_F (lo_mf R G) m N) r ≠ 0 ↔ _
    unfold lo_mf
    by_cases e : R N = 0
    · rw [if_pos e]
      refine Iff.trans ih ?_
      constructor
      · rintro (h | ⟨h, s, hs, hr⟩)
        · exact Or.inl h
        · exact Or.inr ⟨h, s, by omega, hr⟩
      · rintro (h | ⟨h, s, hs, hr⟩)
        · exact Or.inl h
        · by_cases ek : s = N
          · subst ek; exact absurd e hr.1
          · exact Or.inr ⟨h, s, by omega, hr⟩
    · rw [if_neg e]
      refine Iff.trans (lo_mm_iff G N _ r 16) ?_
      constructor
      · rintro (h | ⟨h, k, hk, hr⟩)
        · rcases ih.mp h with h | ⟨h, s, hs, hr⟩
          · exact Or.inl h
          · exact Or.inr ⟨h, s, by omega, hr⟩
        · exact Or.inr ⟨h, N, by omega, e, k, hk, hr⟩
      · rintro (h | ⟨h, s, hs, hR, k, hk, hr⟩)
        · exact Or.inl (ih.mpr (Or.inl h))
        · by_cases ek : s = N
          · subst ek; exact Or.inr ⟨h, k, hk, hr⟩
          · exact Or.inl (ih.mpr (Or.inr ⟨h, s, by omega, hR, k, hk, hr⟩))
theorem xw_mark {post : SX → Prop} {s : Nat} (hs : s < 4096) (h : post (lo_a n, lo_a L, lo_a T, lo_a H, R, W, G, lo_F (lo_mm G s) M 16)) :
    wpX_markMetIn post (lo_a n, lo_a L, lo_a T, lo_a H, R, W, G, M) (nI s) := by
  unfold wpX_markMetIn
  refine ⟨17, lo_loop (fun f i (m : Nat → Int32) => wX_markMetIn_2 post (nI s) f (nI i) (lo_a n) (lo_a L) (lo_a T) (lo_a H) R W G m)
    (lo_mm G s) M 16 (fun f => ?_) (fun f i hi k => ?_)⟩
  · exact br_t (nI_le (a := 16) (b := 16) (by omega) (by decide)) h
  · have k' : lo_F (lo_mm G s) M (i + 1) = lo_mm G s i (lo_F (lo_mm G s) M i) := rfl
    try dsimp only at k ⊢
    rw [k'] at k
    generalize lo_F (lo_mm G s) M i = m at k ⊢
    unfold lo_mm at k
    have hna := (lo_na_d s i).1
    refine br_f (nI_ge (a := i) (b := 16) (by omega) (by decide)) ?_
    refine xw_next hs hi ?_
    refine ⟨pk_in (lo_na s i) 4096 hna, ?_⟩
    rw [nI_clamp (show lo_na s i < 2 ^ 31 by omega)]
    refine br_c (fun e => ?_) (fun e => ?_)
    · rw [if_pos e] at k
      exact nm_r (nI_1 i) k
    · rw [if_neg e] at k
      refine ⟨pk_in (lo_na s i) 4096 hna, ?_⟩
      refine nm_r (e' := upd m (lo_na s i) 1) (by rw [lo_v1]) ?_
      exact nm_r (nI_1 i) k
def lo_c1 (i : Nat) (m : Nat → Int32) : Nat → Int32 := upd m i 0
theorem lo_c1_0 (z : Nat → Int32) : ∀ N j, j < N → lo_F lo_c1 z N j = 0 := by
  intro N
  induction N with
  | zero => intro j hj; exact absurd hj (Nat.not_lt_zero j)
  | succ N ih =>
    intro j hj
    show upd (lo_F lo_c1 z N) N 0 j = 0
    by_cases e : j = N
    · rw [e, pk_us]
    · rw [pk_un e]; exact ih j (by omega)
theorem xw_findMet {post : SX → Prop}
    (h : ∀ M', (∀ r, r < 4096 → (M' r ≠ 0 ↔ (G r ≠ 0 ∧ ∃ s, s < 4096 ∧ R s ≠ 0 ∧ ∃ k, k < 16 ∧ r = lo_na s k))) → post (lo_a n, lo_a L, lo_a T, lo_a H, R, W, G, M')) :
    wpX_findMet post (lo_a n, lo_a L, lo_a T, lo_a H, R, W, G, M) := by
  unfold wpX_findMet
  refine ⟨4097, lo_loop (fun f i (m : Nat → Int32) => wX_findMet_2 post f (nI i) (lo_a n) (lo_a L) (lo_a T) (lo_a H) R W G m)
    lo_c1 M 4096 (fun f => ?_) (fun f i hi k => ?_)⟩
  · have h0 := lo_c1_0 M 4096
    try dsimp only
    generalize lo_F lo_c1 M 4096 = z at h0 ⊢
    refine br_t (nI_le (a := 4096) (b := 4096) (by omega) (by decide)) ?_
    refine ⟨4097, lo_loop (fun f i (m : Nat → Int32) => wX_findMet_24 post f (nI i) (lo_a n) (lo_a L) (lo_a T) (lo_a H) R W G m)
      (lo_mf R G) z 4096 (fun f => ?_) (fun f i hi k => ?_)⟩
    · refine br_t (nI_le (a := 4096) (b := 4096) (by omega) (by decide)) (h _ (fun r hr => ?_))
      refine Iff.trans (lo_mf_iff R G z r 4096) ?_
      constructor
      · rintro (q | q)
        · exact absurd (h0 r hr) q
        · exact q
      · intro q; exact Or.inr q
    · have k' : lo_F (lo_mf R G) z (i + 1) = lo_mf R G i (lo_F (lo_mf R G) z i) := rfl
      try dsimp only at k ⊢
      rw [k'] at k
      generalize lo_F (lo_mf R G) z i = m at k ⊢
      unfold lo_mf at k
      refine br_f (nI_ge (a := i) (b := 4096) (by omega) (by decide)) ?_
      refine ⟨pk_in i 4096 hi, ?_⟩
      rw [nI_clamp (show i < 2 ^ 31 by omega)]
      refine br_c (fun e => ?_) (fun e => ?_)
      · rw [if_pos e] at k
        exact nm_r (nI_1 i) k
      · rw [if_neg e] at k
        refine xw_mark hi ?_
        exact nm_r (nI_1 i) k
  · have k' : lo_F lo_c1 M (i + 1) = upd (lo_F lo_c1 M i) i 0 := rfl
    try dsimp only at k ⊢
    rw [k'] at k
    generalize lo_F lo_c1 M i = m at k ⊢
    refine br_f (nI_ge (a := i) (b := 4096) (by omega) (by decide)) ?_
    refine ⟨pk_in i 4096 hi, ?_⟩
    refine nm_r (e' := upd m i 0) (by rw [nI_clamp (by omega), lo_v0]) ?_
    exact nm_r (nI_1 i) k
theorem xw_meets_l {post : Int32 → Prop} {s : Nat} (hs : s < 4096) : ∀ d j, j + d = 16 → post (lo_b (lo_any (fun k => decide (G (lo_na s k) ≠ 0)) d j)) →
    wX_meetsRing_13 post (nI s) (lo_a n) (lo_a L) (lo_a T) (lo_a H) R W G M (d + 1) (nI j) := by
  intro d
  induction d with
  | zero => intro j hj h; exact br_t (nI_le (a := 16) (by omega) (by omega)) h
  | succ d ih =>
    intro j hj h
    have hna := (lo_na_d s j).1
    have e2 : lo_any (fun k => decide (G (lo_na s k) ≠ 0)) (d + 1) j = (decide (G (lo_na s j) ≠ 0) || lo_any (fun k => decide (G (lo_na s k) ≠ 0)) d (j + 1)) := rfl
    rw [e2] at h
    refine br_f (nI_ge (a := j) (b := 16) (by omega) (by decide)) ?_
    refine xw_next hs (by omega) ?_
    refine ⟨pk_in (lo_na s j) 4096 hna, ?_⟩
    rw [nI_clamp (show lo_na s j < 2 ^ 31 by omega)]
    refine br_c (fun e => ?_) (fun e => ?_)
    · rw [decide_eq_false (show ¬ (G (lo_na s j) ≠ 0) from fun q => q e), Bool.false_or] at h
      exact nm_r (nI_1 j) (ih (j + 1) (by omega) h)
    · rw [decide_eq_true (show G (lo_na s j) ≠ 0 from e), Bool.true_or] at h
      exact h
def lo_me (R G : Nat → Int32) (s : Nat) : Bool := decide (R s ≠ 0) && lo_ms (fun r => decide (G r ≠ 0)) s
theorem xw_meets {post : Int32 → Prop} {s : Nat} (hs : s < 4096) (h : post (lo_b (lo_me R G s))) :
    wpX_meetsRing post (lo_a n, lo_a L, lo_a T, lo_a H, R, W, G, M) (nI s) := by
  unfold wpX_meetsRing
  unfold lo_me at h
  refine ⟨pk_in s 4096 hs, ?_⟩
  rw [nI_clamp (show s < 2 ^ 31 by omega)]
  refine br_c (fun e => ?_) (fun e => ?_)
  · rw [decide_eq_false (show ¬ (R s ≠ 0) from fun q => q e), Bool.false_and] at h
    exact h
  · rw [decide_eq_true (show R s ≠ 0 from e), Bool.true_and] at h
    exact ⟨17, xw_meets_l hs 16 0 rfl h⟩
theorem xw_cnt5 {post : Int32 → SX → Prop} (h : post (nI (lo_c (fun x => lo_me R G x) 4096)) (lo_a n, lo_a L, lo_a T, lo_a H, R, W, G, M)) :
    wX_statesMet_12 post (lo_a n) (lo_a L) (lo_a T) (lo_a H) R W G M 4097 0 0 := by
  refine lo_loopS (fun f i (s : Nat) => wX_statesMet_12 post (lo_a n) (lo_a L) (lo_a T) (lo_a H) R W G M f (nI s) (nI i)) (lo_c (fun x => lo_me R G x)) 4096 (fun f => ?_) (fun f i hi k => ?_)
  · exact br_t (nI_le (a := 4096) (b := 4096) (by omega) (by decide)) h
  · try dsimp only at k ⊢
    rw [lo_c_s] at k
    refine br_f (nI_ge (a := i) (b := 4096) (by omega) (by decide)) ?_
    refine xw_meets hi (lo_br (fun e => ?_) (fun e => ?_))
    · rw [if_neg (by rw [e]; decide)] at k
      exact nm_r (nI_1 i) k
    · rw [if_pos e] at k
      exact nm_r (nI_1 _) (nm_r (nI_1 i) k)
def lo_ss (d : Nat → Nat) : Nat → Nat
  | 0 => 0
  | t + 1 => lo_ss d t + d t
theorem lo_ss_4 (d : Nat → Nat) : lo_ss d 4 = lo_sm d := by
  show 0 + d 0 + d 1 + d 2 + d 3 = _
  rw [Nat.zero_add]
  rfl
theorem xw_byAll {post : Int32 → Prop} {x : Nat} (hx : x < 4096) (h : post (nI (lo_sm (lo_d x)))) : wpX_doneByAll post (nI x) := by
  unfold wpX_doneByAll
  refine ⟨5, lo_loopS (fun f i (z : Nat) => wX_doneByAll_4 post (nI x) f (nI z) (nI i)) (lo_ss (lo_d x)) 4 (fun f => ?_) (fun f i hi q => ?_)⟩
  · rw [← lo_ss_4] at h
    exact br_t (nI_le (a := 4) (b := 4) (by omega) (by decide)) h
  · try dsimp only at q ⊢
    refine br_f (nI_ge (a := i) (b := 4) (by omega) (by decide)) ?_
    refine xw_doneBy hx hi ?_
    exact nm_r (nI_add _ _) (nm_r (nI_1 i) q)
theorem xw_soon {post : Int32 → SX → Prop} (h : post (lo_F (lo_sX (fun x => lo_me R G x)) (-4) 4096) (lo_a n, lo_a L, lo_a T, lo_a H, R, W, G, M)) :
    wX_soonest_13 post (lo_a n) (lo_a L) (lo_a T) (lo_a H) R W G M 4097 (-4) 0 := by
  refine lo_loop (fun f i (s : Int32) => wX_soonest_13 post (lo_a n) (lo_a L) (lo_a T) (lo_a H) R W G M f s (nI i)) (lo_sX (fun x => lo_me R G x)) (-4) 4096 (fun f => ?_) (fun f i hi k => ?_)
  · exact br_t (nI_le (a := 4096) (b := 4096) (by omega) (by decide)) h
  · have k' : lo_F (lo_sX (fun x => lo_me R G x)) (-4) (i + 1) = (if lo_me R G i = true then (if lo_F (lo_sX (fun x => lo_me R G x)) (-4) i = -4 then nI (lo_sm (lo_d i)) else if nI (lo_sm (lo_d i)) < lo_F (lo_sX (fun x => lo_me R G x)) (-4) i then nI (lo_sm (lo_d i)) else lo_F (lo_sX (fun x => lo_me R G x)) (-4) i) else lo_F (lo_sX (fun x => lo_me R G x)) (-4) i) := rfl
    try dsimp only at k ⊢
    rw [k'] at k
    generalize lo_F (lo_sX (fun x => lo_me R G x)) (-4) i = s at k ⊢
    refine br_f (nI_ge (a := i) (b := 4096) (by omega) (by decide)) ?_
    refine xw_meets hi (lo_br (fun e => ?_) (fun e => ?_))
    · rw [if_neg (by rw [e]; decide)] at k
      exact nm_r (nI_1 i) k
    · rw [if_pos e] at k
      refine xw_byAll hi ?_
      refine br_c (fun e2 => ?_) (fun e2 => ?_)
      · rw [if_pos e2] at k
        exact nm_r (nI_1 i) k
      · rw [if_neg e2] at k
        refine br_c (fun e3 => ?_) (fun e3 => ?_)
        · rw [if_neg (Int32.not_lt.mpr e3)] at k
          exact nm_r (nI_1 i) k
        · rw [if_pos (Int32.not_le.mp e3)] at k
          exact nm_r (nI_1 i) k
end
end
section
/-! the reference's walks: states -/
theorem lo_clrx {m x : Nat} (hm : m < 32) (h8 : 8 ≤ x) (hx : x < 13) : nI m &&& (((1 : Int32) <<< ((nI x - 8) &&& 31)) ^^^ (-1)) = nI (lo_m m x) := by
  obtain ⟨p, rfl⟩ : ∃ p, x = 8 + p := ⟨x - 8, by omega⟩
  rw [lo_clrI m hm p (by omega)]
  unfold lo_m
  rw [if_neg (by omega), Nat.add_sub_cancel_left]
theorem lo_orx {m x : Nat} (hm : m < 32) (hx : x < 5) : nI m ||| ((1 : Int32) <<< (nI x &&& 31)) = nI (lo_m m x) := by
  rw [lo_orI m hm x hx]
  unfold lo_m
  rw [if_pos (by omega)]
theorem lo_stepY_d (y t u : Nat) (hy : y < 2401) (ht : t < 4) (hu : u < 4) (h : lo_e y t < 6) : lo_e (y + lo_q t) u = lo_e y u + (if u = t then 1 else 0) := by
  have ht' : t = 0 ∨ t = 1 ∨ t = 2 ∨ t = 3 := by omega
  have hu' : u = 0 ∨ u = 1 ∨ u = 2 ∨ u = 3 := by omega
  rcases ht' with rfl | rfl | rfl | rfl <;> rcases hu' with rfl | rfl | rfl | rfl <;> (first | rw [if_pos rfl] | rw [if_neg (by decide)]) <;> simp only [lo_e0, lo_e1, lo_e2, lo_e3, lo_q0, lo_q1, lo_q2, lo_q3] at h ⊢ <;> omega
theorem lo_q_lt {y t : Nat} (hy : y < 2401) (ht : t < 4) (h : lo_e y t < 6) : y + lo_q t < 2401 := by
  have ht' : t = 0 ∨ t = 1 ∨ t = 2 ∨ t = 3 := by omega
  rcases ht' with rfl | rfl | rfl | rfl <;> simp only [lo_e0, lo_e1, lo_e2, lo_e3, lo_q0, lo_q1, lo_q2, lo_q3] at h ⊢ <;> omega
def lo_iY (n : Nat → Nat) (R : Nat → Int32) : Prop := ∀ y, y < 2401 → R y ≠ 0 → ∀ t, t < 4 → lo_e y t ≤ n t
theorem lo_gY_ne {n A : Nat → Nat} {y t : Nat} (h : lo_gY n A y t = true) : lo_e y t ≠ n t := by
  unfold lo_gY at h
  exact of_decide_eq_true (Bool.and_eq_true_iff.mp h).1
theorem lo_s1_iY {n A : Nat → Nat} (hn : ∀ t, t < 4 → n t ≤ 6) {y t : Nat} (hy : y < 2401) (ht : t < 4) (hd : ∀ u, u < 4 → lo_e y u ≤ n u)
    {b : (Nat → Int32) × (Nat → Int32)} (h : lo_iY n b.1) : lo_iY n (lo_s1 (lo_gY n A) lo_q y t b).1 := by
  unfold lo_s1
  by_cases e : lo_gY n A y t = true
  · rw [if_pos e]
    have h1 := hd t ht
    have h2 := lo_gY_ne e
    have h3 := hn t ht
    intro z hz hr u hu
    have hr' : upd b.1 (y + lo_q t) 1 z ≠ 0 := hr
    by_cases ez : z = y + lo_q t
    · rw [ez, lo_stepY_d y t u hy ht hu (by omega)]
      have h4 := hd u hu
      by_cases eu : u = t
      · subst eu; rw [if_pos rfl]; omega
      · rw [if_neg eu]; omega
    · rw [pk_un ez] at hr'
      exact h z hz hr' u hu
  · rw [if_neg e]; exact h
theorem lo_s1_keep {g : Nat → Nat → Bool} {y t : Nat} (b : (Nat → Int32) × (Nat → Int32)) : (lo_s1 g lo_q y t b).1 y = b.1 y := by
  unfold lo_s1
  have hq := lo_q_pos t
  by_cases e : g y t = true
  · rw [if_pos e]
    show upd b.1 (y + lo_q t) 1 y = b.1 y
    rw [pk_un (by omega)]
  · rw [if_neg e]
section
variable {n A : Nat → Nat} {mn : Int32} {R W S K C : Nat → Int32}
/-- what the reference's own data keep -/
def lo_Dy (n A : Nat → Nat) (S : Nat → Int32) : Prop := (∀ t, t < 4 → n t ≤ 6) ∧ (∀ j, lo_ok (A j)) ∧ (∀ t, t < 4 → S t = nI (lo_q t))
theorem yw_held (D : lo_Dy n A S) {post : Int32 → Prop} {t k : Nat} (ht : t < 4) (hk : k ≤ 6) (h : post (nI (lo_h A t k))) :
    wpY_held post (mn, lo_a A, lo_a n, R, W, S, K, C) (nI t) (nI k) := by
  unfold wpY_held
  refine ⟨k + 1, lo_loopS (fun f i (s : Nat) => wY_held_5 post (nI t) (nI k) mn (lo_a A) (lo_a n) R W S K C f (nI s) (nI i)) (lo_h A t) k (fun f => ?_) (fun f i hi q => ?_)⟩
  · exact br_t (nI_le (a := k) (b := k) (by omega) (by omega)) h
  · try dsimp only at q ⊢
    have hm := lo_h_lt D.2.1 t i
    have hx := D.2.1 (6 * t + i)
    refine br_f (nI_ge (a := i) (b := k) hi (by omega)) ?_
    rw [lo_cell6]
    refine ⟨pk_in (6 * t + i) 24 (by omega), ?_⟩
    refine nm_r (lo_at A (by omega)) ?_
    refine pk_le 8 (A (6 * t + i)) (fun e => ?_) (fun e => ?_) rfl rfl (by decide) (by rcases hx with q | q <;> omega)
    · refine nm_r (e' := nI (lo_h A t (i + 1))) ?_ (nm_r (nI_1 i) q)
      exact lo_clrx hm e (by rcases hx with q | q <;> omega)
    · refine nm_r (e' := nI (lo_h A t (i + 1))) ?_ (nm_r (nI_1 i) q)
      exact lo_orx hm (by rcases hx with q | q <;> omega)
theorem yw_done (D : lo_Dy n A S) {post : Int32 → Prop} {y t : Nat} (hy : y < 2401) (ht : t < 4) (h : post (nI (lo_e y t))) :
    wpY_done post (mn, lo_a A, lo_a n, R, W, S, K, C) (nI y) (nI t) := by
  unfold wpY_done
  have hq := lo_q_pos t
  try dsimp only
  rw [nI_clamp (show t < 2 ^ 31 by omega), D.2.2 t ht, lo_eI hy]
  exact ⟨pk_in t 4 ht, nI_ne0 hq.1 (by omega), by decide, h⟩
theorem yw_68 {post : Int32 → Prop} {J : Int32 → Prop} {y t : Int32} {m x j : Nat} (hm : m < 32) (hx : lo_ok x)
    (hJ : (decide (x < 8) && m.testBit x) = false → J (nI (j + 1))) (h0 : (decide (x < 8) && m.testBit x) = true → post 0) :
    wY_mayGoOn_68 post J y t (nI x) (nI j) (nI m) mn (lo_a A) (lo_a n) R W S K C := by
  unfold wY_mayGoOn_68
  have hx2 : x < 13 := by rcases hx with q | q <;> omega
  refine pk_le 8 x (fun e => ?_) (fun e => ?_) rfl rfl (by decide) (by omega)
  · exact nm_r (nI_1 j) (hJ (by rw [decide_eq_false (show ¬ x < 8 by omega), Bool.false_and]))
  · have hx5 : x < 5 := by rcases hx with q | q <;> omega
    refine lo_brY hm hx5 (fun e2 => ?_) (fun e2 => ?_)
    · exact h0 (by rw [decide_eq_true e, e2]; rfl)
    · exact nm_r (nI_1 j) (hJ (by rw [e2, Bool.and_false]))
theorem yw_go_l (D : lo_Dy n A S) {post : Int32 → Prop} {y t x : Nat} (hy : y < 2401) (ht : t < 4) (hx : lo_ok x) (P : Nat → Bool)
    (hP : ∀ u, u < 4 → P u = (decide (x < 8) && (if u = t then 0 else lo_h A u (lo_e y u)).testBit x)) : ∀ d j, j + d = 4 → post (lo_b (!lo_any P d j)) →
    wY_mayGoOn_35 post (nI y) (nI t) (nI x) mn (lo_a A) (lo_a n) R W S K C (d + 1) (nI j) := by
  intro d
  induction d with
  | zero => intro j hj h; exact br_t (nI_le (a := 4) (by omega) (by omega)) h
  | succ d ih =>
    intro j hj h
    have he := lo_e_lt y j
    have e2 : lo_any P (d + 1) j = (P j || lo_any P d (j + 1)) := rfl
    rw [e2, hP j (by omega)] at h
    refine br_f (nI_ge (a := j) (b := 4) (by omega) (by decide)) ?_
    refine yw_done D hy (by omega) ?_
    refine pk_eq j t (fun e => ?_) (fun e => ?_) rfl rfl (by omega) (by omega)
    · rw [if_pos e] at h
      refine yw_68 (m := 0) (by decide) hx (fun q => ?_) (fun q => ?_)
      · rw [q, Bool.false_or] at h
        exact ih (j + 1) (by omega) h
      · rw [q, Bool.true_or] at h
        exact h
    · rw [if_neg e] at h
      refine yw_held D (by omega) (by omega) ?_
      refine yw_68 (lo_h_lt D.2.1 j _) hx (fun q => ?_) (fun q => ?_)
      · rw [q, Bool.false_or] at h
        exact ih (j + 1) (by omega) h
      · rw [q, Bool.true_or] at h
        exact h
theorem yw_mayGoOn (D : lo_Dy n A S) {post : Int32 → Prop} {y t : Nat} (hy : y < 2401) (ht : t < 4) (hd : lo_e y t ≤ n t) (h : post (lo_b (lo_gY n A y t))) :
    wpY_mayGoOn post (mn, lo_a A, lo_a n, R, W, S, K, C) (nI y) (nI t) := by
  unfold wpY_mayGoOn
  unfold lo_gY at h
  have hn := D.1 t ht
  refine yw_done D hy ht ?_
  refine ⟨pk_in t 4 ht, ?_⟩
  refine pk_eq (lo_e y t) (n t) (fun e => ?_) (fun e => ?_) rfl (lo_at n (by omega)) (by omega) (by omega)
  · rw [decide_eq_false (show ¬ (lo_e y t ≠ n t) from fun q => q e), Bool.false_and] at h
    exact h
  · rw [decide_eq_true (show lo_e y t ≠ n t from e), Bool.true_and] at h
    rw [lo_cell6]
    refine ⟨pk_in (6 * t + lo_e y t) 24 (by omega), ?_⟩
    refine nm_r (lo_at A (by omega)) ?_
    exact ⟨5, yw_go_l D hy ht (D.2.1 _) _ (fun u _ => rfl) 4 0 rfl h⟩
theorem yw_56 (D : lo_Dy n A S) {post : SY → Prop} {J : Int32 → (Nat → Int32) → (Nat → Int32) → (Nat → Int32) → (Nat → Int32) → (Nat → Int32) → (Nat → Int32) → (Nat → Int32) → Prop} {y : Nat} (hy : y < 2401) (hi : lo_iY n R)
    (h : J (nI (y + 1)) (lo_a A) (lo_a n) (lo_fx (lo_gY n A) lo_q y (R, W)).1 (lo_fx (lo_gY n A) lo_q y (R, W)).2 S K C) :
    wY_work_56 post J (nI y) mn 5 0 (lo_a A) (lo_a n) R W S K C := by
  unfold lo_fx at h
  by_cases hr : R y = 0
  · rw [if_pos hr] at h
    refine br_f (nI_ge (a := 0) (b := 4) (by omega) (by decide)) ?_
    refine ⟨pk_in y 2401 hy, ?_⟩
    rw [nI_clamp (show y < 2 ^ 31 by omega)]
    exact br_t hr (nm_r (nI_1 y) h)
  · rw [if_neg hr] at h
    refine lo_loop (fun f i (s : (Nat → Int32) × (Nat → Int32)) => wY_work_56 post J (nI y) mn f (nI i) (lo_a A) (lo_a n) s.1 s.2 S K C) (lo_s1 (lo_gY n A) lo_q y) (R, W) 4 (fun f => ?_) (fun f i hi4 k => ?_)
    · exact br_t (nI_le (a := 4) (b := 4) (by omega) (by decide)) (nm_r (nI_1 y) h)
    · have hd : ∀ u, u < 4 → lo_e y u ≤ n u := hi y hy hr
      have keep : ∀ i, (lo_F (lo_s1 (lo_gY n A) lo_q y) (R, W) i).1 y = R y := by
        intro i
        induction i with
        | zero => rfl
        | succ i ih =>
          show (lo_s1 (lo_gY n A) lo_q y i (lo_F (lo_s1 (lo_gY n A) lo_q y) (R, W) i)).1 y = R y
          rw [lo_s1_keep, ih]
      have kp := keep i
      have k' : lo_F (lo_s1 (lo_gY n A) lo_q y) (R, W) (i + 1) = lo_s1 (lo_gY n A) lo_q y i (lo_F (lo_s1 (lo_gY n A) lo_q y) (R, W) i) := rfl
      try dsimp only at k ⊢
      rw [k'] at k
      generalize lo_F (lo_s1 (lo_gY n A) lo_q y) (R, W) i = s at k kp ⊢
      refine br_f (nI_ge (a := i) (b := 4) (by omega) (by decide)) ?_
      refine ⟨pk_in y 2401 hy, ?_⟩
      rw [nI_clamp (show y < 2 ^ 31 by omega)]
      refine br_f (by rw [kp]; exact hr) ?_
      refine yw_mayGoOn D hy hi4 (hd i hi4) (lo_br (fun e => ?_) (fun e => ?_))
      · have k2 : lo_s1 (lo_gY n A) lo_q y i s = s := by
          unfold lo_s1
          rw [e, if_neg (by decide)]
        rw [k2] at k
        exact nm_r (nI_1 i) k
      · have k2 : lo_s1 (lo_gY n A) lo_q y i s = (upd s.1 (y + lo_q i) 1, upd s.2 (y + lo_q i) (lo_w (s.2 (y + lo_q i)) (s.2 y))) := by
          unfold lo_s1
          rw [e, if_pos rfl]
        rw [k2] at k
        have h1 := hd i hi4
        have h2 := lo_gY_ne e
        have h3 := D.1 i hi4
        have hlt := lo_q_lt hy hi4 (show lo_e y i < 6 by omega)
        refine ⟨pk_in i 4 hi4, ?_⟩
        refine nm_r (e' := nI (y + lo_q i)) (by rw [nI_clamp (show i < 2 ^ 31 by omega), D.2.2 i hi4, nI_add]) ?_
        refine ⟨pk_in (y + lo_q i) 2401 hlt, ?_⟩
        refine nm_r (e' := upd s.1 (y + lo_q i) 1) (by rw [nI_clamp (by omega), lo_v1]) ?_
        refine ⟨pk_in (y + lo_q i) 2401 hlt, pk_in y 2401 hy, by decide, pk_in (y + lo_q i) 2401 hlt, ?_⟩
        refine nm_r (e' := upd s.2 (y + lo_q i) (lo_w (s.2 (y + lo_q i)) (s.2 y))) (by rw [nI_clamp (n := y + lo_q i) (by omega)]; rfl) ?_
        exact nm_r (nI_1 i) k
theorem lo_s4_iY (hn : ∀ t, t < 4 → n t ≤ 6) {y : Nat} (hy : y < 2401) (hd : ∀ u, u < 4 → lo_e y u ≤ n u) {b : (Nat → Int32) × (Nat → Int32)} (h : lo_iY n b.1) : lo_iY n (lo_s4 (lo_gY n A) lo_q y b).1 :=
  lo_s1_iY hn hy (t := 3) (by decide) hd (lo_s1_iY hn hy (t := 2) (by decide) hd (lo_s1_iY hn hy (t := 1) (by decide) hd (lo_s1_iY hn hy (t := 0) (by decide) hd h)))
theorem lo_fx_iY (hn : ∀ t, t < 4 → n t ≤ 6) {y : Nat} (hy : y < 2401) {b : (Nat → Int32) × (Nat → Int32)} (h : lo_iY n b.1) : lo_iY n (lo_fx (lo_gY n A) lo_q y b).1 := by
  unfold lo_fx
  by_cases e : b.1 y = 0
  · rw [if_pos e]; exact h
  · rw [if_neg e]; exact lo_s4_iY hn hy (h y hy e) h
theorem lo_ex_iY (hn : ∀ t, t < 4 → n t ≤ 6) {b : (Nat → Int32) × (Nat → Int32)} (h : lo_iY n b.1) : ∀ N, N ≤ 2401 → lo_iY n (lo_ex (lo_gY n A) lo_q b N).1 := by
  intro N
  induction N with
  | zero => intro _; exact h
  | succ N ih =>
    intro hN
    show lo_iY n (lo_fx (lo_gY n A) lo_q N (lo_ex (lo_gY n A) lo_q b N)).1
    exact lo_fx_iY hn (by omega) (ih (by omega))
theorem lo_I0_iY {b : (Nat → Int32) × (Nat → Int32)} (h : lo_I0 2401 b) : lo_iY n b.1 := by
  intro y hy hr t _
  have h1 := (h y hy).1
  by_cases e : y = 0
  · subst e
    unfold lo_e
    rw [Nat.zero_div, Nat.zero_mod]
    exact Nat.zero_le _
  · rw [if_neg e] at h1
    exact absurd h1 hr
def lo_yc (i : Nat) (s : (Nat → Int32) × (Nat → Int32)) : (Nat → Int32) × (Nat → Int32) := (upd s.1 i (if i = 0 then 1 else 0), upd s.2 i (if i = 0 then 1 else 0))
theorem lo_yc_0 (z : (Nat → Int32) × (Nat → Int32)) : ∀ N, lo_I0 N (lo_F lo_yc z N) := by
  intro N
  induction N with
  | zero => intro j hj; exact absurd hj (Nat.not_lt_zero j)
  | succ N ih =>
    intro j hj
    show upd (lo_F lo_yc z N).1 N (if N = 0 then 1 else 0) j = _ ∧ upd (lo_F lo_yc z N).2 N (if N = 0 then 1 else 0) j = _
    by_cases e : j = N
    · rw [e, pk_us, pk_us]; exact ⟨rfl, rfl⟩
    · rw [pk_un e, pk_un e]; exact ih j (by omega)
theorem yw_work (D : lo_Dy n A S) {post : SY → Prop}
    (h : ∀ b, lo_I0 2401 b → post (mn, lo_a A, lo_a n, (lo_ex (lo_gY n A) lo_q b 2401).1, (lo_ex (lo_gY n A) lo_q b 2401).2, S, K, C)) :
    wpY_work post (mn, lo_a A, lo_a n, R, W, S, K, C) := by
  unfold wpY_work
  refine ⟨2402, lo_loop (fun f i (s : (Nat → Int32) × (Nat → Int32)) => wY_work_2 post mn f (nI i) (lo_a A) (lo_a n) s.1 s.2 S K C) lo_yc (R, W) 2401 (fun f => ?_) (fun f i hi k => ?_)⟩
  · have h1 := lo_yc_0 (R, W) 2401
    try dsimp only
    generalize lo_F lo_yc (R, W) 2401 = b at h1 ⊢
    refine br_t (nI_le (a := 2401) (b := 2401) (by omega) (by decide)) ?_
    refine ⟨2402, lo_loop (fun f i (s : (Nat → Int32) × (Nat → Int32)) => wY_work_47 post mn f (nI i) (lo_a A) (lo_a n) s.1 s.2 S K C) (lo_fx (lo_gY n A) lo_q) b 2401 (fun f => ?_) (fun f i hi k => ?_)⟩
    · exact br_t (nI_le (a := 2401) (b := 2401) (by omega) (by decide)) (h b h1)
    · have hI : lo_iY n (lo_F (lo_fx (lo_gY n A) lo_q) b i).1 := lo_ex_iY D.1 (lo_I0_iY h1) i (by omega)
      have k' : lo_F (lo_fx (lo_gY n A) lo_q) b (i + 1) = lo_fx (lo_gY n A) lo_q i (lo_F (lo_fx (lo_gY n A) lo_q) b i) := rfl
      try dsimp only at k ⊢
      rw [k'] at k
      generalize lo_F (lo_fx (lo_gY n A) lo_q) b i = w at k hI ⊢
      refine br_f (nI_ge (a := i) (b := 2401) (by omega) (by decide)) ?_
      exact ⟨5, yw_56 D hi hI k⟩
  · have k' : lo_F lo_yc (R, W) (i + 1) = (upd (lo_F lo_yc (R, W) i).1 i (if i = 0 then 1 else 0), upd (lo_F lo_yc (R, W) i).2 i (if i = 0 then 1 else 0)) := rfl
    try dsimp only at k ⊢
    rw [k'] at k
    generalize lo_F lo_yc (R, W) i = s at k ⊢
    refine br_f (nI_ge (a := i) (b := 2401) (by omega) (by decide)) ?_
    refine pk_eq i 0 (fun e => ?_) (fun e => ?_) rfl rfl (by omega) (by decide)
    · rw [if_pos e] at k
      unfold wY_work_23
      refine ⟨pk_in i 2401 hi, ?_⟩
      refine nm_r (e' := upd s.1 i 1) (by rw [nI_clamp (by omega), lo_v1]) ?_
      refine br_t (by rw [e]; rfl) ⟨pk_in i 2401 hi, ?_⟩
      refine nm_r (e' := upd s.2 i 1) (by rw [nI_clamp (by omega)]) ?_
      exact nm_r (nI_1 i) k
    · rw [if_neg e] at k
      unfold wY_work_23
      refine ⟨pk_in i 2401 hi, ?_⟩
      refine nm_r (e' := upd s.1 i 0) (by rw [nI_clamp (by omega), lo_v0]) ?_
      refine br_f (nI_ne0 (by omega) (by omega)) ⟨pk_in i 2401 hi, ?_⟩
      refine nm_r (e' := upd s.2 i 0) (by rw [nI_clamp (by omega)]) ?_
      exact nm_r (nI_1 i) k
end
end
section
/-! the reference's walks: questions on states -/
section
variable {n A : Nat → Nat} {mn : Int32} {R W S K C : Nat → Int32}
theorem yw_last (D : lo_Dy n A S) {post : Int32 → Prop} (h : post (nI (lo_fn n lo_q))) :
    wpY_last post (mn, lo_a A, lo_a n, R, W, S, K, C) := by
  unfold wpY_last
  refine ⟨5, lo_loopS (fun f i (s : Nat) => wY_last_4 post mn (lo_a A) (lo_a n) R W S K C f (nI s) (nI i)) (lo_fs n lo_q) 4 (fun f => ?_) (fun f i hi k => ?_)⟩
  · rw [← lo_fs_4] at h
    exact br_t (nI_le (a := 4) (b := 4) (by omega) (by decide)) h
  · try dsimp only at k ⊢
    refine br_f (nI_ge (a := i) (b := 4) (by omega) (by decide)) ?_
    refine ⟨pk_in i 4 hi, pk_in i 4 hi, ?_⟩
    refine nm_r (e' := nI (lo_fs n lo_q (i + 1))) ?_ (nm_r (nI_1 i) k)
    rw [lo_at n (by omega), nI_clamp (show i < 2 ^ 31 by omega), D.2.2 i hi, pk_mul, nI_add, Nat.mul_comm]
    rfl
theorem yw_stuck_l (D : lo_Dy n A S) {post : Int32 → Prop} {y : Nat} (hy : y < 2401) (hd : ∀ t, t < 4 → lo_e y t ≤ n t) : ∀ d j, j + d = 4 → post (lo_b (!lo_any (fun t => lo_gY n A y t) d j)) →
    wY_isStuck_18 post (nI y) mn (lo_a A) (lo_a n) R W S K C (d + 1) (nI j) := by
  intro d
  induction d with
  | zero => intro j hj h; exact br_t (nI_le (a := 4) (by omega) (by omega)) h
  | succ d ih =>
    intro j hj h
    have e2 : lo_any (fun t => lo_gY n A y t) (d + 1) j = (lo_gY n A y j || lo_any (fun t => lo_gY n A y t) d (j + 1)) := rfl
    rw [e2] at h
    refine br_f (nI_ge (a := j) (b := 4) (by omega) (by decide)) ?_
    refine yw_mayGoOn D hy (by omega) (hd j (by omega)) (lo_br (fun e => ?_) (fun e => ?_))
    · rw [e, Bool.false_or] at h
      exact nm_r (nI_1 j) (ih (j + 1) (by omega) h)
    · rw [e, Bool.true_or] at h
      exact h
theorem yw_isStuck (D : lo_Dy n A S) (hi : lo_iY n R) {post : Int32 → Prop} {y f : Nat} (hy : y < 2401) (hf : f < 2401) (h : post (lo_b (lo_sk R (lo_gY n A) f y))) :
    wpY_isStuck post (mn, lo_a A, lo_a n, R, W, S, K, C) (nI y) (nI f) := by
  unfold wpY_isStuck
  refine ⟨pk_in y 2401 hy, ?_⟩
  rw [nI_clamp (show y < 2 ^ 31 by omega)]
  unfold lo_sk at h
  refine br_c (fun e => ?_) (fun e => ?_)
  · rw [decide_eq_false (show ¬ (R y ≠ 0) from fun q => q e), Bool.false_and] at h
    exact h
  · rw [decide_eq_true (show R y ≠ 0 from e), Bool.true_and] at h
    refine pk_eq y f (fun e2 => ?_) (fun e2 => ?_) rfl rfl (by omega) (by omega)
    · rw [decide_eq_false (show ¬ (y ≠ f) from fun q => q e2), Bool.false_and] at h
      exact h
    · rw [decide_eq_true (show y ≠ f from e2), Bool.true_and] at h
      exact ⟨5, yw_stuck_l D hy (hi y hy e) 4 0 rfl h⟩
theorem yw_cnt1 {post : Int32 → SY → Prop} (P : Nat → Bool) (hP : ∀ x, x < 2401 → P x = decide (R x ≠ 0)) (h : post (nI (lo_c P 2401)) (mn, lo_a A, lo_a n, R, W, S, K, C)) :
    wY_states_8 post mn (lo_a A) (lo_a n) R W S K C 2402 0 0 := by
  refine lo_loopS (fun f i (s : Nat) => wY_states_8 post mn (lo_a A) (lo_a n) R W S K C f (nI s) (nI i)) (lo_c P) 2401 (fun f => ?_) (fun f i hi k => ?_)
  · exact br_t (nI_le (a := 2401) (b := 2401) (by omega) (by decide)) h
  · try dsimp only at k ⊢
    rw [lo_c_s, hP i hi] at k
    refine br_f (nI_ge (a := i) (b := 2401) (by omega) (by decide)) ?_
    refine ⟨pk_in i 2401 hi, ?_⟩
    rw [nI_clamp (show i < 2 ^ 31 by omega)]
    refine br_c (fun e => ?_) (fun e => ?_)
    · rw [decide_eq_false (show ¬ (R i ≠ 0) from fun q => q e), if_neg (by decide)] at k
      exact nm_r (nI_1 i) k
    · rw [decide_eq_true (show R i ≠ 0 from e), if_pos rfl] at k
      exact nm_r (nI_1 _) (nm_r (nI_1 i) k)
theorem yw_cnt4 (D : lo_Dy n A S) (hr : lo_iY n R) {post : Int32 → SY → Prop} {g : Nat} (hg : g < 2401) (h : post (nI (lo_c (fun x => lo_sk R (lo_gY n A) g x) 2401)) (mn, lo_a A, lo_a n, R, W, S, K, C)) :
    wY_stuck_13 post (nI g) mn (lo_a A) (lo_a n) R W S K C 2402 0 0 := by
  refine lo_loopS (fun f i (s : Nat) => wY_stuck_13 post (nI g) mn (lo_a A) (lo_a n) R W S K C f (nI s) (nI i)) (lo_c (fun x => lo_sk R (lo_gY n A) g x)) 2401 (fun f => ?_) (fun f i hi k => ?_)
  · exact br_t (nI_le (a := 2401) (b := 2401) (by omega) (by decide)) h
  · try dsimp only at k ⊢
    rw [lo_c_s] at k
    refine br_f (nI_ge (a := i) (b := 2401) (by omega) (by decide)) ?_
    refine yw_isStuck D hr hi hg (lo_br (fun e => ?_) (fun e => ?_))
    · rw [if_neg (by rw [e]; decide)] at k
      exact nm_r (nI_1 i) k
    · rw [if_pos e] at k
      exact nm_r (nI_1 _) (nm_r (nI_1 i) k)
theorem yw_at (D : lo_Dy n A S) (hr : lo_iY n R) {post : Int32 → SY → Prop} (i : Int32) {t g : Nat} (ht : t < 4) (hg : g < 2401)
    (h : post (lo_an (lo_fo (fun x => lo_sk R (lo_gY n A) g x) (fun x => nI (lo_e x t)) i 2401)) (mn, lo_a A, lo_a n, R, W, S, K, C)) :
    wY_stuckAt_26 post i (nI t) (nI g) mn (lo_a A) (lo_a n) R W S K C 2402 0 0 := by
  have key : ∀ d j, j + d = 2401 → lo_fo (fun x => lo_sk R (lo_gY n A) g x) (fun x => nI (lo_e x t)) i j = none →
      wY_stuckAt_26 post i (nI t) (nI g) mn (lo_a A) (lo_a n) R W S K C (d + 1) (nI (lo_c (fun x => lo_sk R (lo_gY n A) g x) j)) (nI j) := by
    intro d
    induction d with
    | zero =>
      intro j hj hn
      have ej : j = 2401 := by omega
      subst ej
      rw [hn] at h
      exact br_t (nI_le (a := 2401) (b := 2401) (by omega) (by decide)) h
    | succ d ih =>
      intro j hj hn
      have e1 : lo_fo (fun x => lo_sk R (lo_gY n A) g x) (fun x => nI (lo_e x t)) i (j + 1) = lo_ff (fun x => lo_sk R (lo_gY n A) g x) (fun x => nI (lo_e x t)) i j (lo_fo (fun x => lo_sk R (lo_gY n A) g x) (fun x => nI (lo_e x t)) i j) := rfl
      rw [hn] at e1
      have e2 : lo_fo (fun x => lo_sk R (lo_gY n A) g x) (fun x => nI (lo_e x t)) i (j + 1) = if lo_sk R (lo_gY n A) g j = true then (if nI (lo_c (fun x => lo_sk R (lo_gY n A) g x) j) = i then some (nI (lo_e j t)) else none) else none := e1
      have hs : lo_c (fun x => lo_sk R (lo_gY n A) g x) (j + 1) = if lo_sk R (lo_gY n A) g j = true then lo_c (fun x => lo_sk R (lo_gY n A) g x) j + 1 else lo_c (fun x => lo_sk R (lo_gY n A) g x) j := rfl
      have ih2 := ih (j + 1) (by omega)
      refine br_f (nI_ge (a := j) (b := 2401) (by omega) (by decide)) ?_
      refine yw_isStuck D hr (by omega) hg (lo_br (fun e => ?_) (fun e => ?_))
      · have e' : ¬ lo_sk R (lo_gY n A) g j = true := by rw [e]; decide
        rw [if_neg e'] at e2 hs
        rw [hs] at ih2
        exact nm_r (nI_1 j) (ih2 e2)
      · rw [if_pos e] at e2 hs
        rw [hs] at ih2
        refine br_c (fun e3 => ?_) (fun e3 => ?_)
        · rw [if_pos e3] at e2
          rw [lo_fo_some _ _ _ e2 2401 (by omega)] at h
          exact yw_done D (by omega) ht h
        · rw [if_neg e3] at e2
          exact nm_r (nI_1 _) (nm_r (nI_1 j) (ih2 e2))
  exact key 2401 0 rfl rfl
end
end
section
/-! the reference's walks: rings -/
theorem lo_lst_or (P : Nat → Bool) : lo_lst P 4 = 4 ∨ (lo_lst P 4 < 4 ∧ P (lo_lst P 4) = true) := by
  rw [lo_lst_4]
  by_cases e0 : P 3 = true
  · rw [if_pos e0]; exact Or.inr ⟨by decide, e0⟩
  · rw [if_neg e0]
    by_cases e1 : P 2 = true
    · rw [if_pos e1]; exact Or.inr ⟨by decide, e1⟩
    · rw [if_neg e1]
      by_cases e2 : P 1 = true
      · rw [if_pos e2]; exact Or.inr ⟨by decide, e2⟩
      · rw [if_neg e2]
        by_cases e3 : P 0 = true
        · rw [if_pos e3]; exact Or.inr ⟨by decide, e3⟩
        · rw [if_neg e3]; exact Or.inl rfl
theorem lo_ok8 {x : Nat} (h : lo_ok x) (h8 : x < 8) : x < 5 := by rcases h with q | q <;> omega
theorem lo_ok13 {x : Nat} (h : lo_ok x) : x < 13 := by rcases h with q | q <;> omega
section
variable {n A : Nat → Nat} {mn : Int32} {R W S K C : Nat → Int32}
theorem yw_isRequest (D : lo_Dy n A S) {post : Int32 → Prop} {t d : Nat} (ht : t < 4) (hd : d < 8) (h : post (lo_b (lo_rqY n A t d))) :
    wpY_isRequest post (mn, lo_a A, lo_a n, R, W, S, K, C) (nI t) (nI d) := by
  unfold wpY_isRequest
  unfold lo_rqY at h
  have hn := D.1 t ht
  have hA := lo_ok13 (D.2.1 (6 * t + d))
  refine ⟨pk_in t 4 ht, ?_⟩
  refine pk_le (n t) d (fun e => ?_) (fun e => ?_) (lo_at n (by omega)) rfl (by omega) (by omega)
  · rw [decide_eq_false (show ¬ d < n t by omega), Bool.false_and] at h
    exact h
  · rw [decide_eq_true e, Bool.true_and] at h
    rw [lo_cell6]
    refine ⟨pk_in (6 * t + d) 24 (by omega), ?_⟩
    refine pk_le 8 (A (6 * t + d)) (fun e2 => ?_) (fun e2 => ?_) rfl (lo_at A (by omega)) (by decide) (by omega)
    · rw [decide_eq_false (show ¬ A (6 * t + d) < 8 by omega), Bool.false_and] at h
      exact h
    · rw [decide_eq_true e2, Bool.true_and] at h
      have hh := lo_h_lt D.2.1 t d
      refine yw_held D ht (by omega) ?_
      refine pk_eq (lo_h A t d) 0 (fun e3 => ?_) (fun e3 => ?_) rfl rfl (by omega) (by decide)
      · rw [decide_eq_false (show ¬ (lo_h A t d ≠ 0) from fun q => q e3)] at h
        exact h
      · rw [decide_eq_true (show lo_h A t d ≠ 0 from e3)] at h
        exact h
theorem lo_nb0 {k : Nat} (h : k < 4) : (0 : Int32) ≤ nI k := nI_pos' (by omega)
theorem yw_33 (D : lo_Dy n A S) {post : Int32 → Prop} {J : Int32 → Int32 → Prop} {e : Nat → Nat} {f k p : Nat} (hC : ∀ t, t < 4 → C t = nI (e t)) (he : ∀ t, t < 4 → e t < 7)
    (hf : f < 4) (hp : p < 5) (P : Nat → Bool) (hP : ∀ u, u < 4 → P u = (decide (e u < 6) && (lo_h A u (e u)).testBit p))
    (h4 : lo_lst P 4 = 4 → post 0) (h5 : lo_lst P 4 ≠ 4 → lo_lst P 4 = f → post (nI k)) (h6 : lo_lst P 4 ≠ 4 → lo_lst P 4 ≠ f → J (nI (lo_lst P 4)) (nI (k + 1))) :
    wY_round_33 post J (nI f) (nI k) (nI p) mn (lo_a A) (lo_a n) R W S K C 5 (-1) 0 := by
  refine lo_loopS (fun g i (s : Int32) => wY_round_33 post J (nI f) (nI k) (nI p) mn (lo_a A) (lo_a n) R W S K C g s (nI i)) (fun i => lo_nb (lo_lst P i)) 4 (fun g => ?_) (fun g i hi q => ?_)
  · refine br_t (nI_le (a := 4) (b := 4) (by omega) (by decide)) ?_
    rcases lo_lst_or P with o | ⟨o, _⟩
    · rw [o]
      exact br_f (by decide) (h4 o)
    · have o4 : lo_lst P 4 ≠ 4 := by omega
      rw [lo_nbn o4]
      refine br_t (lo_nb0 o) ?_
      refine pk_eq (lo_lst P 4) f (fun e5 => h5 o4 e5) (fun e5 => ?_) rfl rfl (by omega) (by omega)
      exact nm_r (nI_1 k) (h6 o4 e5)
  · try dsimp only at q ⊢
    have k' : lo_lst P (i + 1) = if P i = true then i else lo_lst P i := rfl
    rw [k', hP i hi] at q
    have hei := he i hi
    refine br_f (nI_ge (a := i) (b := 4) (by omega) (by decide)) ?_
    refine ⟨pk_in i 4 hi, ?_⟩
    rw [nI_clamp (show i < 2 ^ 31 by omega), hC i hi]
    refine pk_le 6 (e i) (fun e1 => ?_) (fun e1 => ?_) rfl rfl (by decide) (by omega)
    · rw [decide_eq_false (show ¬ e i < 6 by omega), Bool.false_and, if_neg (by decide)] at q
      exact nm_r (nI_1 i) q
    · rw [decide_eq_true (show e i < 6 by omega), Bool.true_and] at q
      refine ⟨pk_in i 4 hi, ?_⟩
      refine yw_held D hi (by omega) ?_
      refine lo_brY (lo_h_lt D.2.1 i _) hp (fun e3 => ?_) (fun e3 => ?_)
      · rw [e3, if_pos rfl, lo_nbn (show i ≠ 4 by omega)] at q
        exact nm_r (nI_1 i) q
      · rw [e3, if_neg (by decide)] at q
        exact nm_r (nI_1 i) q
theorem yw_round_l (D : lo_Dy n A S) {post : Int32 → Prop} {e : Nat → Nat} {f : Nat} (hC : ∀ t, t < 4 → C t = nI (e t)) (he : ∀ t, t < 4 → e t < 7) (hf : f < 4)
    (hq : ∀ t, t < 4 → e t < 6 → A (6 * t + e t) < 5) : ∀ d k t, d + k = 5 → t < 4 → e t < 6 → post (nI (lo_ry (lo_nY A e) f d k t)) →
    wY_round_4 post (nI f) mn (lo_a A) (lo_a n) R W S K C (d + 1) (nI t) (nI k) := by
  intro d
  induction d with
  | zero => intro k t hk ht ht6 h; exact br_t (nI_lt (a := 4) (by omega) (by omega)) h
  | succ d ih =>
    intro k t hk ht ht6 h
    have e2 : lo_ry (lo_nY A e) f (d + 1) k t = if lo_nY A e t = 4 then 0 else if lo_nY A e t = f then k else lo_ry (lo_nY A e) f d (k + 1) (lo_nY A e t) := rfl
    rw [e2] at h
    refine br_f (nI_nlt (a := 4) (by omega) (by omega)) ?_
    refine ⟨pk_in t 4 ht, ?_⟩
    rw [nI_clamp (show t < 2 ^ 31 by omega), hC t ht, lo_cell6]
    refine ⟨pk_in (6 * t + e t) 24 (by omega), ?_⟩
    refine nm_r (lo_at A (by omega)) ?_
    refine ⟨5, yw_33 D hC he hf (hq t ht ht6) (fun u => decide (e u < 6) && (lo_h A u (e u)).testBit (A (6 * t + e t))) (fun u _ => rfl) (fun o => ?_) (fun o o2 => ?_) (fun o o2 => ?_)⟩
    · have o' : lo_nY A e t = 4 := o
      rw [if_pos o'] at h
      exact h
    · have o' : ¬ lo_nY A e t = 4 := o
      have o2' : lo_nY A e t = f := o2
      rw [if_neg o', if_pos o2'] at h
      exact h
    · have o' : ¬ lo_nY A e t = 4 := o
      have o2' : ¬ lo_nY A e t = f := o2
      rw [if_neg o', if_neg o2'] at h
      rcases lo_lst_or (fun u => decide (e u < 6) && (lo_h A u (e u)).testBit (A (6 * t + e t))) with q | ⟨q, q2⟩
      · exact absurd q o
      · exact ih (k + 1) (lo_nY A e t) (by omega) q (of_decide_eq_true (Bool.and_eq_true_iff.mp q2).1) h
theorem yw_isRing_l (D : lo_Dy n A S) {post : Int32 → Prop} {e : Nat → Nat} (hC : ∀ t, t < 4 → C t = nI (e t)) (he : ∀ t, t < 4 → e t < 7) (h : post (lo_b (lo_rY n A e))) :
    ∀ d j v, j + d = 4 → lo_fY n A e j = some v →
    wY_isRing_9 post mn (lo_a A) (lo_a n) R W S K C (d + 1) (lo_nb v.2.2) (nI v.2.1) (nI v.1) (nI j) := by
  intro d
  induction d with
  | zero =>
    intro j v hj hv
    have ej : j = 4 := by omega
    subst ej
    obtain ⟨i1, _, _, i4, i5, _⟩ := lo_r4_inv _ _ _ 4 v hv
    unfold lo_rY at h
    rw [hv] at h
    have h' : post (lo_b (decide (2 ≤ v.2.1) && decide (lo_ry (lo_nY A e) v.2.2 4 1 v.2.2 = v.2.1))) := h
    refine br_t (nI_le (a := 4) (b := 4) (by omega) (by decide)) ?_
    refine pk_le v.2.1 1 (fun e1 => ?_) (fun e1 => ?_) rfl rfl (by omega) (by decide)
    · rw [decide_eq_false (show ¬ 2 ≤ v.2.1 by omega), Bool.false_and] at h'
      exact h'
    · rw [decide_eq_true (show 2 ≤ v.2.1 by omega), Bool.true_and] at h'
      obtain ⟨i6, i7⟩ := i5 (by omega)
      have hq : ∀ t, t < 4 → e t < 6 → A (6 * t + e t) < 5 := by
        intro t ht h6
        have hr : lo_rqY n A t (e t) = true := i1 t ht (decide_eq_true h6)
        unfold lo_rqY at hr
        exact lo_ok8 (D.2.1 _) (of_decide_eq_true (Bool.and_eq_true_iff.mp (Bool.and_eq_true_iff.mp hr).2).1)
      have hge := lo_ry_ge (lo_nY A e) v.2.2 4 1 v.2.2
      have hle : lo_ry (lo_nY A e) v.2.2 4 1 v.2.2 ≤ 5 := by
        have key : ∀ d k t, lo_ry (lo_nY A e) v.2.2 d k t ≤ k + d := by
          intro d
          induction d with
          | zero => intro k t; exact Nat.zero_le _
          | succ d ih =>
            intro k t
            show (if lo_nY A e t = 4 then 0 else if lo_nY A e t = v.2.2 then k else lo_ry (lo_nY A e) v.2.2 d (k + 1) (lo_nY A e t)) ≤ k + (d + 1)
            by_cases h1 : lo_nY A e t = 4
            · rw [if_pos h1]; omega
            · rw [if_neg h1]
              by_cases h2 : lo_nY A e t = v.2.2
              · rw [if_pos h2]; omega
              · rw [if_neg h2]
                have := ih (k + 1) (lo_nY A e t)
                omega
        exact key 4 1 v.2.2
      rw [lo_nbn (show v.2.2 ≠ 4 by omega)]
      unfold wpY_round
      refine ⟨5, yw_round_l D hC he i6 hq 4 1 v.2.2 rfl i6 (of_decide_eq_true i7) ?_⟩
      refine pk_eq (lo_ry (lo_nY A e) v.2.2 4 1 v.2.2) v.2.1 (fun e2 => ?_) (fun e2 => ?_) rfl rfl (by omega) (by omega)
      · rw [decide_eq_true e2] at h'; exact h'
      · rw [decide_eq_false e2] at h'; exact h'
  | succ d ih =>
    intro j v hj hv
    have hj4 : j < 4 := by omega
    have hej := he j hj4
    have hH := lo_h_lt D.2.1 j (e j)
    have e1 : lo_fY n A e (j + 1) = lo_r1 (lo_slY e) (fun t => lo_rqY n A t (e t)) (fun t => lo_h A t (e t)) j (lo_fY n A e j) := rfl
    rw [hv] at e1
    have e2 : lo_fY n A e (j + 1) = if lo_slY e j = true then (if lo_rqY n A j (e j) = true then (if v.1 &&& lo_h A j (e j) = 0 then some (v.1 ||| lo_h A j (e j), v.2.1 + 1, j) else none) else none) else some v := e1
    have hno : lo_fY n A e (j + 1) = none → post 0 := by
      intro q
      have q4 : lo_fY n A e 4 = none := lo_r4_none _ _ _ q 4 (by omega)
      unfold lo_rY at h
      rw [q4] at h
      exact h
    refine br_f (nI_ge (a := j) (b := 4) (by omega) (by decide)) ?_
    refine ⟨pk_in j 4 hj4, ?_⟩
    rw [nI_clamp (show j < 2 ^ 31 by omega), hC j hj4]
    refine pk_le 6 (e j) (fun e3 => ?_) (fun e3 => ?_) rfl rfl (by decide) (by omega)
    · have hs : ¬ lo_slY e j = true := by
        unfold lo_slY
        rw [decide_eq_true_eq]
        omega
      rw [if_neg hs] at e2
      exact nm_r (nI_1 j) (ih (j + 1) v (by omega) e2)
    · have hs : lo_slY e j = true := decide_eq_true (show e j < 6 by omega)
      rw [if_pos hs] at e2
      refine ⟨pk_in j 4 hj4, ?_⟩
      refine yw_isRequest D hj4 (by omega) ?_
      refine lo_br (fun e4 => ?_) (fun e4 => ?_)
      · rw [if_neg (by rw [e4]; decide)] at e2
        exact hno e2
      · rw [if_pos e4] at e2
        refine ⟨pk_in j 4 hj4, ?_⟩
        refine yw_held D hj4 (by omega) ?_
        rw [lo_andI]
        have hle : v.1 &&& lo_h A j (e j) ≤ lo_h A j (e j) := Nat.and_le_right
        refine pk_eq (v.1 &&& lo_h A j (e j)) 0 (fun e5 => ?_) (fun e5 => ?_) rfl rfl (by omega) (by decide)
        · rw [if_pos e5] at e2
          have k := ih (j + 1) _ (by omega) e2
          rw [lo_nbn (show j ≠ 4 by omega)] at k
          exact nm_r (lo_or2 _ _) (nm_r (nI_1 _) (nm_r (nI_1 j) k))
        · rw [if_neg e5] at e2
          exact hno e2
theorem yw_isRing (D : lo_Dy n A S) {post : Int32 → Prop} {e : Nat → Nat} (hC : ∀ t, t < 4 → C t = nI (e t)) (he : ∀ t, t < 4 → e t < 7) (h : post (lo_b (lo_rY n A e))) :
    wpY_isRing post (mn, lo_a A, lo_a n, R, W, S, K, C) := by
  unfold wpY_isRing
  exact ⟨5, yw_isRing_l D hC he h 4 0 (0, 0, 4) rfl rfl⟩
def lo_ch (y t : Nat) (c : Nat → Int32) : Nat → Int32 := upd c t (nI (lo_e y t))
theorem lo_ch_v (y : Nat) (c : Nat → Int32) : ∀ N t, t < N → lo_F (lo_ch y) c N t = nI (lo_e y t) := by
  intro N
  induction N with
  | zero => intro j hj; exact absurd hj (Nat.not_lt_zero j)
  | succ N ih =>
    intro j hj
    show upd (lo_F (lo_ch y) c N) N (nI (lo_e y N)) j = _
    by_cases e : j = N
    · rw [e, pk_us]
    · rw [pk_un e]; exact ih j (by omega)
theorem yw_16 (D : lo_Dy n A S) {post : SY → Prop} {J : Int32 → Int32 → (Nat → Int32) → (Nat → Int32) → (Nat → Int32) → (Nat → Int32) → (Nat → Int32) → (Nat → Int32) → (Nat → Int32) → Prop} {y m : Nat} (hy : y < 2401) (hm : m < 2401)
    (h0 : lo_rY n A (lo_e y) = false → ∀ C', J (nI (y + 1)) (nI m) (lo_a A) (lo_a n) R W S K C')
    (h1 : lo_rY n A (lo_e y) = true → ∀ C', J (nI (y + 1)) (nI (m + 1)) (lo_a A) (lo_a n) R W S (upd K m (nI y)) C') :
    wY_findRings_16 post J (nI y) (nI m) 5 0 (lo_a A) (lo_a n) R W S K C := by
  refine lo_loop (fun f i (c : Nat → Int32) => wY_findRings_16 post J (nI y) (nI m) f (nI i) (lo_a A) (lo_a n) R W S K c) (lo_ch y) C 4 (fun f => ?_) (fun f i hi k => ?_)
  · have hc := lo_ch_v y C 4
    try dsimp only
    generalize lo_F (lo_ch y) C 4 = c at hc ⊢
    refine br_t (nI_le (a := 4) (b := 4) (by omega) (by decide)) ?_
    refine yw_isRing D hc (fun t _ => lo_e_lt y t) ?_
    refine lo_br (fun e => ?_) (fun e => ?_)
    · exact nm_r (nI_1 y) (h0 e c)
    · refine ⟨pk_in m 2401 hm, ?_⟩
      refine nm_r (e' := upd K m (nI y)) (by rw [nI_clamp (by omega)]) ?_
      exact nm_r (nI_1 m) (nm_r (nI_1 y) (h1 e c))
  · have k' : lo_F (lo_ch y) C (i + 1) = upd (lo_F (lo_ch y) C i) i (nI (lo_e y i)) := rfl
    try dsimp only at k ⊢
    rw [k'] at k
    generalize lo_F (lo_ch y) C i = c at k ⊢
    refine br_f (nI_ge (a := i) (b := 4) (by omega) (by decide)) ?_
    refine yw_done D hy hi ?_
    refine ⟨pk_in i 4 hi, ?_⟩
    refine nm_r (e' := upd c i (nI (lo_e y i))) (by rw [nI_clamp (by omega)]) ?_
    exact nm_r (nI_1 i) k
/-- the reference's list stands for the rings below N -/
def lo_K (G : Nat → Bool) (N : Nat) (K : Nat → Int32) : Prop := ∀ j, j < (lo_ls G N).1 → K j = nI ((lo_ls G N).2 j)
theorem lo_K_t {G : Nat → Bool} {N : Nat} {K : Nat → Int32} (h : lo_K G N K) (g : G N = true) : lo_K G (N + 1) (upd K (lo_ls G N).1 (nI N)) := by
  intro j hj
  rw [lo_ls_t g] at hj ⊢
  have hj' : j < (lo_ls G N).1 + 1 := hj
  show upd K (lo_ls G N).1 (nI N) j = nI (lo_u (lo_ls G N).2 (lo_ls G N).1 N j)
  by_cases e : j = (lo_ls G N).1
  · rw [e, pk_us, lo_us]
  · rw [pk_un e, lo_un e]
    exact h j (by omega)
theorem yw_findRings (D : lo_Dy n A S) {post : SY → Prop}
    (h : ∀ K' C', lo_K (fun y => lo_rY n A (lo_e y)) 2401 K' → post (nI (lo_ls (fun y => lo_rY n A (lo_e y)) 2401).1, lo_a A, lo_a n, R, W, S, K', C')) :
    wpY_findRings post (mn, lo_a A, lo_a n, R, W, S, K, C) := by
  unfold wpY_findRings
  refine ⟨2402, loop_i (fun f i (s : Int32 × (Nat → Int32) × (Nat → Int32)) => wY_findRings_7 post f (nI i) s.1 (lo_a A) (lo_a n) R W S s.2.1 s.2.2)
    (fun i s => s.1 = nI (lo_ls (fun y => lo_rY n A (lo_e y)) i).1 ∧ lo_K (fun y => lo_rY n A (lo_e y)) i s.2.1) 2401 (fun f s hs => ?_) (fun f i s hi hs k => ?_) 2402 0 (0, K, C) (by omega) (by omega) ⟨rfl, fun j hj => absurd hj (Nat.not_lt_zero j)⟩⟩
  · have h1 := h s.2.1 s.2.2 hs.2
    rw [← hs.1] at h1
    exact br_t (nI_le (a := 2401) (b := 2401) (by omega) (by decide)) h1
  · obtain ⟨m, kk, cc⟩ := s
    obtain ⟨hm, hK⟩ := hs
    have hm' : m = nI (lo_ls (fun y => lo_rY n A (lo_e y)) i).1 := hm
    have hK' : lo_K (fun y => lo_rY n A (lo_e y)) i kk := hK
    subst hm'
    have hle : (lo_ls (fun y => lo_rY n A (lo_e y)) i).1 ≤ i := by
      rw [lo_ls_1]
      exact lo_c_le _ i
    try dsimp only
    refine br_f (nI_ge (a := i) (b := 2401) (by omega) (by decide)) ?_
    refine ⟨5, yw_16 D hi (by omega) (fun e C' => ?_) (fun e C' => ?_)⟩
    · have e' : ¬ (fun y => lo_rY n A (lo_e y)) i = true := by
        show ¬ lo_rY n A (lo_e i) = true
        rw [e]
        decide
      exact k (nI (lo_ls (fun y => lo_rY n A (lo_e y)) i).1, kk, C') ⟨by rw [lo_ls_f e'], by
        intro j hj
        rw [lo_ls_f e'] at hj ⊢
        exact hK' j hj⟩
    · have e' : (fun y => lo_rY n A (lo_e y)) i = true := e
      exact k (nI ((lo_ls (fun y => lo_rY n A (lo_e y)) i).1 + 1), upd kk (lo_ls (fun y => lo_rY n A (lo_e y)) i).1 (nI i), C') ⟨by rw [lo_ls_t e'], lo_K_t hK' e'⟩
end
end
section
/-! the reference's walks: rings that are met -/
section
variable {n A : Nat → Nat} {mn : Int32} {R W S K C : Nat → Int32}
theorem yw_met_l (D : lo_Dy n A S) {post : Int32 → Prop} {z y : Nat} (hz : z < 2401) (hy : y < 2401) : ∀ d j, j + d = 4 →
    post (lo_b (!lo_any (fun t => decide (lo_e z t < 6) && decide (lo_e z t ≠ lo_e y t)) d j)) →
    wY_isMet_2 post (nI z) (nI y) mn (lo_a A) (lo_a n) R W S K C (d + 1) (nI j) := by
  intro d
  induction d with
  | zero => intro j hj h; exact br_t (nI_le (a := 4) (by omega) (by omega)) h
  | succ d ih =>
    intro j hj h
    have h1 := lo_e_lt z j
    have h2 := lo_e_lt y j
    have e2 : lo_any (fun t => decide (lo_e z t < 6) && decide (lo_e z t ≠ lo_e y t)) (d + 1) j = ((decide (lo_e z j < 6) && decide (lo_e z j ≠ lo_e y j)) || lo_any (fun t => decide (lo_e z t < 6) && decide (lo_e z t ≠ lo_e y t)) d (j + 1)) := rfl
    rw [e2] at h
    refine br_f (nI_ge (a := j) (b := 4) (by omega) (by decide)) ?_
    refine yw_done D hz (by omega) ?_
    refine pk_le 6 (lo_e z j) (fun e => ?_) (fun e => ?_) rfl rfl (by decide) (by omega)
    · rw [decide_eq_false (show ¬ lo_e z j < 6 by omega), Bool.false_and, Bool.false_or] at h
      exact nm_r (nI_1 j) (ih (j + 1) (by omega) h)
    · rw [decide_eq_true e, Bool.true_and] at h
      refine yw_done D hy (by omega) ?_
      refine pk_eq (lo_e z j) (lo_e y j) (fun e3 => ?_) (fun e3 => ?_) rfl rfl (by omega) (by omega)
      · rw [decide_eq_false (show ¬ (lo_e z j ≠ lo_e y j) from fun q => q e3), Bool.false_or] at h
        exact nm_r (nI_1 j) (ih (j + 1) (by omega) h)
      · rw [decide_eq_true (show lo_e z j ≠ lo_e y j from e3), Bool.true_or] at h
        exact h
theorem yw_isMet (D : lo_Dy n A S) {post : Int32 → Prop} {z y : Nat} (hz : z < 2401) (hy : y < 2401) (h : post (lo_b (lo_mY z y))) :
    wpY_isMet post (mn, lo_a A, lo_a n, R, W, S, K, C) (nI z) (nI y) := by
  unfold wpY_isMet
  exact ⟨5, yw_met_l D hz hy 4 0 rfl h⟩
theorem yw_any_l (D : lo_Dy n A S) {post : Int32 → Prop} {m y : Nat} {z : Nat → Nat} (hm : m ≤ 2401) (hK : ∀ j, j < m → K j = nI (z j)) (hz : ∀ j, j < m → z j < 2401) (hy : y < 2401) :
    ∀ d j, j + d = m → post (lo_b (lo_any (fun j => lo_mY (z j) y) d j)) → wY_anyMet_2 post (nI y) (nI m) (lo_a A) (lo_a n) R W S K C (d + 1) (nI j) := by
  intro d
  induction d with
  | zero => intro j hj h; exact br_t (nI_le (a := m) (by omega) (by omega)) h
  | succ d ih =>
    intro j hj h
    have e2 : lo_any (fun j => lo_mY (z j) y) (d + 1) j = (lo_mY (z j) y || lo_any (fun j => lo_mY (z j) y) d (j + 1)) := rfl
    rw [e2] at h
    refine br_f (nI_ge (a := j) (b := m) (by omega) (by omega)) ?_
    refine ⟨pk_in j 2401 (by omega), ?_⟩
    rw [nI_clamp (show j < 2 ^ 31 by omega), hK j (by omega)]
    refine yw_isMet D (hz j (by omega)) hy (lo_br (fun e => ?_) (fun e => ?_))
    · rw [e, Bool.false_or] at h
      exact nm_r (nI_1 j) (ih (j + 1) (by omega) h)
    · rw [e, Bool.true_or] at h
      exact h
theorem yw_any (D : lo_Dy n A S) {post : Int32 → Prop} {m y : Nat} {z : Nat → Nat} (hm : m ≤ 2401) (hK : ∀ j, j < m → K j = nI (z j)) (hz : ∀ j, j < m → z j < 2401) (hy : y < 2401)
    (h : post (lo_b (lo_any (fun j => lo_mY (z j) y) m 0))) : wpY_anyMet post (nI m, lo_a A, lo_a n, R, W, S, K, C) (nI y) := by
  unfold wpY_anyMet
  exact ⟨m + 1, yw_any_l D hm hK hz hy m 0 (by omega) h⟩
/-- met in a state that is reached -/
def lo_my (R : Nat → Int32) (z : Nat → Nat) (m y : Nat) : Bool := decide (R y ≠ 0) && lo_any (fun j => lo_mY (z j) y) m 0
theorem yw_cnt5 (D : lo_Dy n A S) {post : Int32 → SY → Prop} {m : Nat} {z : Nat → Nat} (hm : m ≤ 2401) (hK : ∀ j, j < m → K j = nI (z j)) (hz : ∀ j, j < m → z j < 2401)
    (h : post (nI (lo_c (fun y => lo_my R z m y) 2401)) (nI m, lo_a A, lo_a n, R, W, S, K, C)) :
    wY_statesMet_12 post (nI m) (lo_a A) (lo_a n) R W S K C 2402 0 0 := by
  refine lo_loopS (fun f i (s : Nat) => wY_statesMet_12 post (nI m) (lo_a A) (lo_a n) R W S K C f (nI s) (nI i)) (lo_c (fun y => lo_my R z m y)) 2401 (fun f => ?_) (fun f i hi k => ?_)
  · exact br_t (nI_le (a := 2401) (b := 2401) (by omega) (by decide)) h
  · try dsimp only at k ⊢
    have k' : lo_c (fun y => lo_my R z m y) (i + 1) = if (decide (R i ≠ 0) && lo_any (fun j => lo_mY (z j) i) m 0) = true then lo_c (fun y => lo_my R z m y) i + 1 else lo_c (fun y => lo_my R z m y) i := rfl
    rw [k'] at k
    refine br_f (nI_ge (a := i) (b := 2401) (by omega) (by decide)) ?_
    refine ⟨pk_in i 2401 hi, ?_⟩
    rw [nI_clamp (show i < 2 ^ 31 by omega)]
    refine br_c (fun e => ?_) (fun e => ?_)
    · rw [decide_eq_false (show ¬ (R i ≠ 0) from fun q => q e), Bool.false_and, if_neg (by decide)] at k
      exact nm_r (nI_1 i) k
    · rw [decide_eq_true (show R i ≠ 0 from e), Bool.true_and] at k
      refine yw_any D hm hK hz hi (lo_br (fun e2 => ?_) (fun e2 => ?_))
      · rw [if_neg (by rw [e2]; decide)] at k
        exact nm_r (nI_1 i) k
      · rw [if_pos e2] at k
        exact nm_r (nI_1 _) (nm_r (nI_1 i) k)
theorem yw_25 (D : lo_Dy n A S) {post : Int32 → SY → Prop} {J : Int32 → Int32 → Prop} {m c r : Nat} {z : Nat → Nat} (hm : m ≤ 2401) (hK : ∀ j, j < m → K j = nI (z j)) (hz : ∀ j, j < m → z j < 2401) (hr : r < m) :
    ∀ d j, j + d = 2401 → (lo_any (fun y => decide (R y ≠ 0) && lo_mY (z r) y) d j = false → J (nI c) (nI (r + 1))) → (lo_any (fun y => decide (R y ≠ 0) && lo_mY (z r) y) d j = true → J (nI (c + 1)) (nI (r + 1))) →
    wY_ringsMet_25 post J (nI c) (nI r) (nI m) (lo_a A) (lo_a n) R W S K C (d + 2) 0 (nI j) := by
  intro d
  induction d with
  | zero =>
    intro j hj h0 h1
    refine br_t (nI_le (a := 2401) (by omega) (by omega)) ?_
    unfold wY_ringsMet_74
    exact br_t rfl (nm_r (nI_1 r) (h0 rfl))
  | succ d ih =>
    intro j hj h0 h1
    have e2 : lo_any (fun y => decide (R y ≠ 0) && lo_mY (z r) y) (d + 1) j = ((decide (R j ≠ 0) && lo_mY (z r) j) || lo_any (fun y => decide (R y ≠ 0) && lo_mY (z r) y) d (j + 1)) := rfl
    rw [e2] at h0 h1
    refine br_f (nI_ge (a := j) (b := 2401) (by omega) (by decide)) ?_
    refine br_t rfl ?_
    refine ⟨pk_in j 2401 (by omega), ?_⟩
    rw [nI_clamp (show j < 2 ^ 31 by omega)]
    refine br_c (fun e => ?_) (fun e => ?_)
    · rw [decide_eq_false (show ¬ (R j ≠ 0) from fun q => q e), Bool.false_and, Bool.false_or] at h0 h1
      exact nm_r (nI_1 j) (ih (j + 1) (by omega) h0 h1)
    · rw [decide_eq_true (show R j ≠ 0 from e), Bool.true_and] at h0 h1
      refine ⟨pk_in r 2401 (by omega), ?_⟩
      rw [nI_clamp (show r < 2 ^ 31 by omega), hK r hr]
      refine yw_isMet D (hz r hr) (by omega) (lo_br (fun e3 => ?_) (fun e3 => ?_))
      · rw [e3, Bool.false_or] at h0 h1
        exact nm_r (nI_1 j) (ih (j + 1) (by omega) h0 h1)
      · rw [e3, Bool.true_or] at h1
        have g1 := h1 rfl
        have g74 : wY_ringsMet_74 post J (nI c) (nI r) 1 (nI m) (lo_a A) (lo_a n) R W S K C := by
          unfold wY_ringsMet_74
          exact br_f (by decide) (nm_r (nI_1 c) (nm_r (nI_1 r) g1))
        exact nm_r (nI_1 j) (br_c (fun _ => g74) (fun _ => br_f (by decide) g74))
theorem yw_cnt3 (D : lo_Dy n A S) {post : Int32 → SY → Prop} {m : Nat} {z : Nat → Nat} (hm : m ≤ 2401) (hK : ∀ j, j < m → K j = nI (z j)) (hz : ∀ j, j < m → z j < 2401)
    (h : post (nI (lo_c (fun j => lo_mt R (z j)) m)) (nI m, lo_a A, lo_a n, R, W, S, K, C)) :
    wY_ringsMet_12 post (nI m) (lo_a A) (lo_a n) R W S K C (m + 1) 0 0 := by
  refine lo_loopS (fun f i (s : Nat) => wY_ringsMet_12 post (nI m) (lo_a A) (lo_a n) R W S K C f (nI s) (nI i)) (lo_c (fun j => lo_mt R (z j))) m (fun f => ?_) (fun f i hi k => ?_)
  · exact br_t (nI_le (a := m) (b := m) (by omega) (by omega)) h
  · try dsimp only at k ⊢
    have k' : lo_c (fun j => lo_mt R (z j)) (i + 1) = if lo_mt R (z i) = true then lo_c (fun j => lo_mt R (z j)) i + 1 else lo_c (fun j => lo_mt R (z j)) i := rfl
    rw [k'] at k
    refine br_f (nI_ge (a := i) (b := m) (by omega) (by omega)) ?_
    refine ⟨2403, yw_25 D hm hK hz hi 2401 0 rfl (fun e => ?_) (fun e => ?_)⟩
    · have e' : lo_mt R (z i) = false := e
      rw [if_neg (by rw [e']; decide)] at k
      exact k
    · have e' : lo_mt R (z i) = true := e
      rw [if_pos e'] at k
      exact k
theorem yw_soon (D : lo_Dy n A S) {post : Int32 → SY → Prop} {m : Nat} {z : Nat → Nat} (hm : m ≤ 2401) (hK : ∀ j, j < m → K j = nI (z j)) (hz : ∀ j, j < m → z j < 2401)
    (h4 : lo_F (lo_sY (fun y => lo_my R z m y)) 99 2401 = 99 → post (-4) (nI m, lo_a A, lo_a n, R, W, S, K, C))
    (h5 : ¬ lo_F (lo_sY (fun y => lo_my R z m y)) 99 2401 = 99 → post (lo_F (lo_sY (fun y => lo_my R z m y)) 99 2401) (nI m, lo_a A, lo_a n, R, W, S, K, C)) :
    wY_soonest_13 post (nI m) (lo_a A) (lo_a n) R W S K C 2402 99 0 := by
  refine lo_loop (fun f i (s : Int32) => wY_soonest_13 post (nI m) (lo_a A) (lo_a n) R W S K C f s (nI i)) (lo_sY (fun y => lo_my R z m y)) 99 2401 (fun f => ?_) (fun f i hi k => ?_)
  · exact br_t (nI_le (a := 2401) (b := 2401) (by omega) (by decide)) (br_c h4 h5)
  · have k' : lo_F (lo_sY (fun y => lo_my R z m y)) 99 (i + 1) = (if (decide (R i ≠ 0) && lo_any (fun j => lo_mY (z j) i) m 0) = true then (if nI (lo_sm (lo_e i)) < lo_F (lo_sY (fun y => lo_my R z m y)) 99 i then nI (lo_sm (lo_e i)) else lo_F (lo_sY (fun y => lo_my R z m y)) 99 i) else lo_F (lo_sY (fun y => lo_my R z m y)) 99 i) := rfl
    try dsimp only at k ⊢
    rw [k'] at k
    generalize lo_F (lo_sY (fun y => lo_my R z m y)) 99 i = s at k ⊢
    refine br_f (nI_ge (a := i) (b := 2401) (by omega) (by decide)) ?_
    refine yw_done (t := 0) D hi (by decide) ?_
    refine yw_done (t := 1) D hi (by decide) ?_
    refine yw_done (t := 2) D hi (by decide) ?_
    refine yw_done (t := 3) D hi (by decide) ?_
    refine nm_r (e' := nI (lo_sm (lo_e i))) (by rw [nI_add, nI_add, nI_add]; rfl) ?_
    refine ⟨pk_in i 2401 hi, ?_⟩
    rw [nI_clamp (show i < 2 ^ 31 by omega)]
    refine br_c (fun e => ?_) (fun e => ?_)
    · rw [decide_eq_false (show ¬ (R i ≠ 0) from fun q => q e), Bool.false_and, if_neg (by decide)] at k
      exact nm_r (nI_1 i) k
    · rw [decide_eq_true (show R i ≠ 0 from e), Bool.true_and] at k
      refine br_c (fun e2 => ?_) (fun e2 => ?_)
      · rw [if_neg (Int32.not_lt.mpr e2)] at k
        have k2 : wY_soonest_13 post (nI m) (lo_a A) (lo_a n) R W S K C f s (nI (i + 1)) := by
          by_cases q : lo_any (fun j => lo_mY (z j) i) m 0 = true
          · rw [if_pos q] at k; exact k
          · rw [if_neg q] at k; exact k
        exact nm_r (nI_1 i) k2
      · rw [if_pos (Int32.not_le.mp e2)] at k
        refine yw_any D hm hK hz hi (lo_br (fun e3 => ?_) (fun e3 => ?_))
        · rw [if_neg (by rw [e3]; decide)] at k
          exact nm_r (nI_1 i) k
        · rw [if_pos e3] at k
          exact nm_r (nI_1 i) k
end
end
section
/-! the relation; take, give, drop -/
/-- what the component keeps of actions, beside the reference's; all else is worked out anew by each question -/
def i_Rel (k : Nat) (u : SX) (v : SY) : Prop :=
  ∃ (n L T H A : Nat → Nat) (R W G M : Nat → Int32) (mn : Int32) (R' W' S K C : Nat → Int32),
    u = (lo_a n, lo_a L, lo_a T, lo_a H, R, W, G, M) ∧ v = (mn, lo_a A, lo_a n, R', W', S, K, C) ∧ lo_D n L T H A ∧ ∀ t, t < 4 → S t = nI (lo_q t)
theorem i_up {k : Nat} {u : SX} {v : SY} (h : i_Rel k u v) : i_Rel (k + 5) u v := h
theorem lo_rel {k : Nat} {n L T H A : Nat → Nat} {R W G M : Nat → Int32} {mn : Int32} {R' W' S K C : Nat → Int32} (D : lo_D n L T H A) (hS : ∀ t, t < 4 → S t = nI (lo_q t)) :
    i_Rel k (lo_a n, lo_a L, lo_a T, lo_a H, R, W, G, M) (mn, lo_a A, lo_a n, R', W', S, K, C) :=
  ⟨n, L, T, H, A, R, W, G, M, mn, R', W', S, K, C, rfl, rfl, D, hS⟩
theorem lo_DX {n L T H A : Nat → Nat} (D : lo_D n L T H A) : lo_Dx n L T H := ⟨D.1, D.2.2.2.1, D.2.2.2.2.1, D.2.2.2.2.2.1⟩
theorem lo_DY {n L T H A : Nat → Nat} {S : Nat → Int32} (D : lo_D n L T H A) (hS : ∀ t, t < 4 → S t = nI (lo_q t)) : lo_Dy n A S := ⟨D.1, D.2.2.2.2.2.2, hS⟩
theorem lo_D0 : lo_D (fun _ => 0) (fun _ => 0) (fun _ => 0) (fun _ => 0) (fun _ => 0) := by
  refine ⟨fun t _ => Nat.zero_le _, fun t _ k hk => absurd hk (Nat.not_lt_zero k), fun t _ k hk => ?_, fun j => by show 0 < 5; decide, fun j => Nat.zero_le _, fun j => by show 0 < 32; decide, fun j => Or.inl (by show 0 < 5; decide)⟩
  have e : k = 0 := Nat.le_zero.mp hk
  subst e
  rfl
theorem yw_init {post : SY → Prop} (h : ∀ S : Nat → Int32, (∀ t, t < 4 → S t = nI (lo_q t)) → post (0, lo_a (fun _ => 0), lo_a (fun _ => 0), (fun _ => 0), (fun _ => 0), S, (fun _ => 0), (fun _ => 0))) : wpY_init post := by
  unfold wpY_init
  refine ⟨5, ?_⟩
  refine br_f (by decide) ⟨vp_in_iff.mpr (by decide), nm_e ⟨by decide, nm_r (e' := 49) (by decide) (nm_r (e' := 1) (by decide) ?_)⟩⟩
  refine br_f (by decide) ⟨vp_in_iff.mpr (by decide), nm_e ⟨by decide, nm_r (e' := 7) (by decide) (nm_r (e' := 2) (by decide) ?_)⟩⟩
  refine br_f (by decide) ⟨vp_in_iff.mpr (by decide), nm_e ⟨by decide, nm_r (e' := 1) (by decide) (nm_r (e' := 3) (by decide) ?_)⟩⟩
  refine br_f (by decide) ⟨vp_in_iff.mpr (by decide), nm_e ⟨by decide, nm_r (e' := 0) (by decide) (nm_r (e' := 4) (by decide) ?_)⟩⟩
  exact br_t (by decide) (h _ (lo_4 rfl rfl rfl rfl))
theorem i_vc0 : wpX_init (fun u => wpY_init (fun v => i_Rel 0 u v)) := by
  unfold wpX_init
  refine yw_init (fun S hS => ?_)
  exact ⟨fun _ => 0, fun _ => 0, fun _ => 0, fun _ => 0, fun _ => 0, fun _ => 0, fun _ => 0, fun _ => 0, fun _ => 0, 0, fun _ => 0, fun _ => 0, S, fun _ => 0, fun _ => 0, rfl, rfl, lo_D0, hS⟩
/-- one action more -/
theorem lo_D_put {n L T H A : Nat → Nat} (D : lo_D n L T H A) {t p tk x : Nat} (ht : t < 4) (hn : n t < 6) (hp : p < 5) (hx : (tk = 1 ∧ x = p) ∨ (tk = 0 ∧ x = 8 + p))
    (hm : H (t * 8 + n t) ^^^ 2 ^ p = lo_m (H (t * 8 + n t)) x) :
    lo_D (lo_u n t (n t + 1)) (lo_u L (t * 8 + n t) p) (lo_u T (t * 8 + n t) tk) (lo_u H (t * 8 + n t + 1) (H (t * 8 + n t) ^^^ 2 ^ p)) (lo_u A (6 * t + n t) x) := by
  obtain ⟨d1, d2, d3, d4, d5, d6, d7⟩ := D
  have hok : lo_ok x := by
    rcases hx with ⟨_, e⟩ | ⟨_, e⟩
    · exact Or.inl (by omega)
    · exact Or.inr ⟨by omega, by omega⟩
  refine ⟨fun s hs => ?_, fun s hs k hk => ?_, fun s hs k hk => ?_, fun j => ?_, fun j => ?_, fun j => ?_, fun j => ?_⟩
  · by_cases e : s = t
    · rw [e, lo_us]; omega
    · rw [lo_un e]; exact d1 s hs
  · by_cases e : s = t
    · subst e
      rw [lo_us] at hk
      by_cases ek : k = n s
      · subst ek
        rw [lo_us, lo_us, lo_us]
        exact hx
      · rw [lo_un (show s * 8 + k ≠ s * 8 + n s by omega), lo_un (show s * 8 + k ≠ s * 8 + n s by omega), lo_un (show 6 * s + k ≠ 6 * s + n s by omega)]
        exact d2 s hs k (by omega)
    · rw [lo_un e] at hk
      have h6 := d1 s hs
      rw [lo_un (show s * 8 + k ≠ t * 8 + n t by omega), lo_un (show s * 8 + k ≠ t * 8 + n t by omega), lo_un (show 6 * s + k ≠ 6 * t + n t by omega)]
      exact d2 s hs k hk
  · by_cases e : s = t
    · subst e
      rw [lo_us] at hk
      have hc : ∀ k, k ≤ n s → lo_h (lo_u A (6 * s + n s) x) s k = lo_h A s k := fun k hk => lo_h_congr _ _ s k (fun j hj => lo_un (by omega))
      by_cases ek : k = n s + 1
      · subst ek
        show lo_u H (s * 8 + n s + 1) (H (s * 8 + n s) ^^^ 2 ^ p) (s * 8 + n s + 1) = lo_m (lo_h (lo_u A (6 * s + n s) x) s (n s)) (lo_u A (6 * s + n s) x (6 * s + n s))
        rw [lo_us, lo_us, hc (n s) (Nat.le_refl _), ← d3 s hs (n s) (Nat.le_refl _)]
        exact hm
      · rw [lo_un (show s * 8 + k ≠ s * 8 + n s + 1 by omega), hc k (by omega)]
        exact d3 s hs k (by omega)
    · rw [lo_un e] at hk
      have h6 := d1 s hs
      rw [lo_un (show s * 8 + k ≠ t * 8 + n t + 1 by omega), lo_h_congr (lo_u A (6 * t + n t) x) A s k (fun j hj => lo_un (by omega))]
      exact d3 s hs k hk
  · by_cases e : j = t * 8 + n t
    · rw [e, lo_us]; exact hp
    · rw [lo_un e]; exact d4 j
  · by_cases e : j = t * 8 + n t
    · rw [e, lo_us]; rcases hx with ⟨q, _⟩ | ⟨q, _⟩ <;> omega
    · rw [lo_un e]; exact d5 j
  · by_cases e : j = t * 8 + n t + 1
    · rw [e, lo_us]; exact lo_xor_lt _ (d6 _) p hp
    · rw [lo_un e]; exact d6 j
  · by_cases e : j = 6 * t + n t
    · rw [e, lo_us]; exact hok
    · rw [lo_un e]; exact d7 j
theorem lo_D_drop {n L T H A : Nat → Nat} (D : lo_D n L T H A) {t : Nat} (ht : t < 4) : lo_D (lo_u n t (n t - 1)) L T H A := by
  obtain ⟨d1, d2, d3, d4⟩ := D
  have hle : ∀ s, s < 4 → lo_u n t (n t - 1) s ≤ n s := by
    intro s _
    by_cases e : s = t
    · rw [e, lo_us]; omega
    · rw [lo_un e]; exact Nat.le_refl _
  exact ⟨fun s hs => Nat.le_trans (hle s hs) (d1 s hs), fun s hs k hk => d2 s hs k (Nat.lt_of_lt_of_le hk (hle s hs)), fun s hs k hk => d3 s hs k (Nat.le_trans hk (hle s hs)), d4⟩
theorem lo_nr {t : Int32} {N i : Nat} (hN : N < 2 ^ 31) (hb : t < 0 ∨ nI N ≤ t) (hi : i < N) (e : t = nI i) : False := by
  rw [e] at hb
  rcases hb with q | q
  · exact nI_pos (by omega) q
  · exact nI_ge hi hN q
section
variable {n L T H A : Nat → Nat} {R W G M : Nat → Int32} {mn : Int32} {R' W' S K C : Nat → Int32}
theorem xw_holds (D : lo_Dx n L T H) {post : Int32 → Prop} {t p : Nat} (ht : t < 4) (hp : p < 5) (h : post (lo_b ((H (t * 8 + n t)).testBit p))) :
    wpX_holdsAtEnd post (lo_a n, lo_a L, lo_a T, lo_a H, R, W, G, M) (nI t) (nI p) := by
  unfold wpX_holdsAtEnd
  have hn := D.1 t ht
  refine ⟨pk_in t 4 ht, ?_⟩
  rw [lo_at n (show t < 2 ^ 31 by omega)]
  refine xw_cell ?_
  refine ⟨pk_in (t * 8 + n t) 32 (by omega), lo_brb (lo_at H (by omega)) (D.2.2.2 _) hp (fun e => ?_) (fun e => ?_)⟩
  · rw [e] at h; exact h
  · rw [e] at h; exact h
theorem xw_append (D : lo_Dx n L T H) {post : Int32 → SX → Prop} {t p tk : Nat} {b : Int32} (ht : t < 4) (hn : n t < 6) (hp : p < 5) (hv : vp_nar .boolean b = nI tk)
    (h : post (nI (n t + 1)) (lo_a (lo_u n t (n t + 1)), lo_a (lo_u L (t * 8 + n t) p), lo_a (lo_u T (t * 8 + n t) tk), lo_a (lo_u H (t * 8 + n t + 1) (H (t * 8 + n t) ^^^ 2 ^ p)), R, W, G, M)) :
    wpX_append post (lo_a n, lo_a L, lo_a T, lo_a H, R, W, G, M) (nI t) (nI p) b := by
  unfold wpX_append
  refine ⟨pk_in t 4 ht, ?_⟩
  rw [lo_at n (show t < 2 ^ 31 by omega)]
  refine xw_cell ?_
  have hi := pk_in (x := nI (t * 8 + n t)) (t * 8 + n t) 32 (by omega)
  refine ⟨hi, nm_r (e' := lo_a (lo_u L (t * 8 + n t) p)) (by rw [nI_clamp (by omega), lo_au]) ?_⟩
  refine ⟨hi, nm_r (e' := lo_a (lo_u T (t * 8 + n t) tk)) (by rw [nI_clamp (by omega), hv, lo_au]) ?_⟩
  refine ⟨hi, pk_in (t * 8 + n t + 1) 32 (by omega) (nI_1 _), ?_⟩
  refine nm_r (e' := lo_a (lo_u H (t * 8 + n t + 1) (H (t * 8 + n t) ^^^ 2 ^ p))) (by rw [nI_1, nI_clamp (n := t * 8 + n t + 1) (by omega), lo_at H (by omega), lo_xorI _ (D.2.2.2 _) p hp, lo_au]) ?_
  refine ⟨pk_in t 4 ht, pk_in t 4 ht, ?_⟩
  refine nm_r (e' := lo_a (lo_u n t (n t + 1))) (by rw [nI_1, nI_clamp (n := t) (by omega), lo_au]) ?_
  refine ⟨pk_in t 4 ht, ?_⟩
  rw [lo_at _ (show t < 2 ^ 31 by omega), lo_us]
  exact h
theorem yw_bad {post : Int32 → Prop} (t l : Int32) (h1 : (t < 0 ∨ nI 4 ≤ t) ∨ (l < 0 ∨ nI 5 ≤ l) → post 1) (h0 : ∀ i, i < 4 → ∀ j, j < 5 → t = nI i → l = nI j → post 0) :
    wpY_bad post (mn, lo_a A, lo_a n, R', W', S, K, C) t l := by
  unfold wpY_bad
  refine br_c (fun e => h1 (Or.inl (Or.inl e))) (fun e => ?_)
  obtain ⟨i, hi, rfl⟩ := nI_of e
  refine pk_lt 3 i (fun e2 => h1 (Or.inl (Or.inr (nI_le (by omega) hi)))) (fun e2 => ?_) rfl rfl (by decide) hi
  refine br_c (fun e3 => h1 (Or.inr (Or.inl e3))) (fun e3 => ?_)
  obtain ⟨j, hj, rfl⟩ := nI_of e3
  exact pk_le j 4 (fun e4 => h0 i (by omega) j (by omega) rfl rfl) (fun e4 => h1 (Or.inr (Or.inr (nI_le (by omega) hj)))) rfl rfl hj (by decide)
theorem yw_take_bad {post : Int32 → SY → Prop} {t l : Int32} (hb : (t < 0 ∨ nI 4 ≤ t) ∨ (l < 0 ∨ nI 5 ≤ l)) (h : post (-1) (mn, lo_a A, lo_a n, R', W', S, K, C)) :
    wpY_take post (mn, lo_a A, lo_a n, R', W', S, K, C) t l := by
  unfold wpY_take
  refine yw_bad t l (fun _ => br_f (by decide) h) (fun i hi j hj e1 e2 => ?_)
  rcases hb with q | q
  · exact (lo_nr (by decide) q hi e1).elim
  · exact (lo_nr (by decide) q hj e2).elim
theorem yw_give_bad {post : Int32 → SY → Prop} {t l : Int32} (hb : (t < 0 ∨ nI 4 ≤ t) ∨ (l < 0 ∨ nI 5 ≤ l)) (h : post (-1) (mn, lo_a A, lo_a n, R', W', S, K, C)) :
    wpY_give post (mn, lo_a A, lo_a n, R', W', S, K, C) t l := by
  unfold wpY_give
  refine yw_bad t l (fun _ => br_f (by decide) h) (fun i hi j hj e1 e2 => ?_)
  rcases hb with q | q
  · exact (lo_nr (by decide) q hi e1).elim
  · exact (lo_nr (by decide) q hj e2).elim
theorem yw_take (D : lo_Dy n A S) {post : Int32 → SY → Prop} {t p : Nat} (ht : t < 4) (hp : p < 5) (h2 : n t = 6 → post (-2) (mn, lo_a A, lo_a n, R', W', S, K, C))
    (h4 : n t < 6 → (lo_h A t (n t)).testBit p = true → post (-4) (mn, lo_a A, lo_a n, R', W', S, K, C))
    (h0 : n t < 6 → (lo_h A t (n t)).testBit p = false → post (nI (n t + 1)) (mn, lo_a (lo_u A (6 * t + n t) p), lo_a (lo_u n t (n t + 1)), R', W', S, K, C)) :
    wpY_take post (mn, lo_a A, lo_a n, R', W', S, K, C) (nI t) (nI p) := by
  unfold wpY_take
  have hn := D.1 t ht
  refine yw_bad (nI t) (nI p) (fun hb => ?_) (fun _ _ _ _ _ _ => br_t rfl ?_)
  · rcases hb with q | q
    · exact (lo_nr (by decide) q ht rfl).elim
    · exact (lo_nr (by decide) q hp rfl).elim
  · refine ⟨pk_in t 4 ht, ?_⟩
    rw [lo_at n (show t < 2 ^ 31 by omega)]
    refine pk_eq (n t) 6 h2 (fun e => ?_) rfl rfl (by omega) (by decide)
    refine ⟨pk_in t 4 ht, ?_⟩
    refine yw_held D ht hn ?_
    refine lo_brY (lo_h_lt D.2.1 t _) hp (fun e2 => h4 (by omega) e2) (fun e2 => ?_)
    refine ⟨pk_in t 4 ht, ?_⟩
    rw [lo_cell6]
    refine ⟨pk_in (6 * t + n t) 24 (by omega), ?_⟩
    refine nm_r (e' := lo_a (lo_u A (6 * t + n t) p)) (by rw [nI_clamp (by omega), lo_au]) ?_
    refine ⟨pk_in t 4 ht, pk_in t 4 ht, ?_⟩
    refine nm_r (e' := lo_a (lo_u n t (n t + 1))) (by rw [nI_1, nI_clamp (n := t) (by omega), lo_au]) ?_
    refine ⟨pk_in t 4 ht, ?_⟩
    rw [lo_at _ (show t < 2 ^ 31 by omega), lo_us]
    exact h0 (by omega) e2
theorem yw_give (D : lo_Dy n A S) {post : Int32 → SY → Prop} {t p : Nat} (ht : t < 4) (hp : p < 5) (h2 : n t = 6 → post (-2) (mn, lo_a A, lo_a n, R', W', S, K, C))
    (h4 : n t < 6 → (lo_h A t (n t)).testBit p = false → post (-4) (mn, lo_a A, lo_a n, R', W', S, K, C))
    (h0 : n t < 6 → (lo_h A t (n t)).testBit p = true → post (nI (n t + 1)) (mn, lo_a (lo_u A (6 * t + n t) (8 + p)), lo_a (lo_u n t (n t + 1)), R', W', S, K, C)) :
    wpY_give post (mn, lo_a A, lo_a n, R', W', S, K, C) (nI t) (nI p) := by
  unfold wpY_give
  have hn := D.1 t ht
  refine yw_bad (nI t) (nI p) (fun hb => ?_) (fun _ _ _ _ _ _ => br_t rfl ?_)
  · rcases hb with q | q
    · exact (lo_nr (by decide) q ht rfl).elim
    · exact (lo_nr (by decide) q hp rfl).elim
  · refine ⟨pk_in t 4 ht, ?_⟩
    rw [lo_at n (show t < 2 ^ 31 by omega)]
    refine pk_eq (n t) 6 h2 (fun e => ?_) rfl rfl (by omega) (by decide)
    refine ⟨pk_in t 4 ht, ?_⟩
    refine yw_held D ht hn ?_
    refine lo_br0 (lo_h_lt D.2.1 t _) hp (fun e2 => h4 (by omega) e2) (fun e2 => ?_)
    refine ⟨pk_in t 4 ht, ?_⟩
    rw [lo_cell6]
    refine ⟨pk_in (6 * t + n t) 24 (by omega), ?_⟩
    refine nm_r (e' := lo_a (lo_u A (6 * t + n t) (8 + p))) (by rw [nI_clamp (by omega), show (8 : Int32) + nI p = nI (8 + p) from nI_add 8 p, lo_au]) ?_
    refine ⟨pk_in t 4 ht, pk_in t 4 ht, ?_⟩
    refine nm_r (e' := lo_a (lo_u n t (n t + 1))) (by rw [nI_1, nI_clamp (n := t) (by omega), lo_au]) ?_
    refine ⟨pk_in t 4 ht, ?_⟩
    rw [lo_at _ (show t < 2 ^ 31 by omega), lo_us]
    exact h0 (by omega) e2
end
theorem i_vc_take {k : Nat} {u : SX} {v : SY} (I : i_Rel k u v) (hk : k + 5 ≤ 2560) (v1 : Int32) (v2 : Int32) : wpX_take (fun r u' => wpY_take (fun r' v' => r' = r ∧ i_Rel (k + 5) u' v') v v1 v2) u v1 v2 := by
  obtain ⟨n, L, T, H, A, R, W, G, M, mn, R', W', S, K, C, rfl, rfl, D, hS⟩ := I
  have Dx := lo_DX D
  have Dy := lo_DY D hS
  unfold wpX_take
  refine xw_isThread v1 (fun hb => br_t rfl ?_) (fun t ht et => br_f (by decide) ?_)
  · exact yw_take_bad (Or.inl hb) ⟨rfl, lo_rel D hS⟩
  · refine xw_isLock v2 (fun hb => br_t rfl ?_) (fun p hp ep => br_f (by decide) ?_)
    · exact yw_take_bad (Or.inr hb) ⟨rfl, lo_rel D hS⟩
    · subst et ep
      have hn := D.1 t ht
      have hh := D.2.2.1 t ht (n t) (Nat.le_refl _)
      refine ⟨pk_in t 4 ht, pk_lt (n t) 6 (fun e => ?_) (fun e => ?_) (lo_at n (by omega)) rfl (by omega) (by decide)⟩
      · refine xw_holds Dx ht hp (lo_br (fun e2 => ?_) (fun e2 => ?_))
        · refine xw_append (tk := 1) Dx ht e hp lo_v1 ?_
          refine yw_take Dy ht hp (fun q => by omega) (fun _ q => ?_) (fun _ _ => ⟨rfl, ?_⟩)
          · rw [← hh, e2] at q; exact absurd q (by decide)
          · exact lo_rel (lo_D_put D ht e hp (Or.inl ⟨rfl, rfl⟩) (lo_m_take _ (D.2.2.2.2.2.1 _) p hp e2)) hS
        · refine yw_take Dy ht hp (fun q => by omega) (fun _ _ => ⟨rfl, lo_rel D hS⟩) (fun _ q => ?_)
          rw [← hh, e2] at q; exact absurd q (by decide)
      · exact yw_take Dy ht hp (fun _ => ⟨rfl, lo_rel D hS⟩) (fun q => by omega) (fun q => by omega)
theorem i_vc_give {k : Nat} {u : SX} {v : SY} (I : i_Rel k u v) (hk : k + 5 ≤ 2560) (v1 : Int32) (v2 : Int32) : wpX_give (fun r u' => wpY_give (fun r' v' => r' = r ∧ i_Rel (k + 5) u' v') v v1 v2) u v1 v2 := by
  obtain ⟨n, L, T, H, A, R, W, G, M, mn, R', W', S, K, C, rfl, rfl, D, hS⟩ := I
  have Dx := lo_DX D
  have Dy := lo_DY D hS
  unfold wpX_give
  refine xw_isThread v1 (fun hb => br_t rfl ?_) (fun t ht et => br_f (by decide) ?_)
  · exact yw_give_bad (Or.inl hb) ⟨rfl, lo_rel D hS⟩
  · refine xw_isLock v2 (fun hb => br_t rfl ?_) (fun p hp ep => br_f (by decide) ?_)
    · exact yw_give_bad (Or.inr hb) ⟨rfl, lo_rel D hS⟩
    · subst et ep
      have hn := D.1 t ht
      have hh := D.2.2.1 t ht (n t) (Nat.le_refl _)
      refine ⟨pk_in t 4 ht, pk_lt (n t) 6 (fun e => ?_) (fun e => ?_) (lo_at n (by omega)) rfl (by omega) (by decide)⟩
      · refine xw_holds Dx ht hp (lo_br (fun e2 => ?_) (fun e2 => ?_))
        · refine yw_give Dy ht hp (fun q => by omega) (fun _ _ => ⟨rfl, lo_rel D hS⟩) (fun _ q => ?_)
          rw [← hh, e2] at q; exact absurd q (by decide)
        · refine xw_append (tk := 0) Dx ht e hp lo_v0 ?_
          refine yw_give Dy ht hp (fun q => by omega) (fun _ q => ?_) (fun _ _ => ⟨rfl, ?_⟩)
          · rw [← hh, e2] at q; exact absurd q (by decide)
          · exact lo_rel (lo_D_put D ht e hp (Or.inr ⟨rfl, rfl⟩) (lo_m_give _ (D.2.2.2.2.2.1 _) p hp e2)) hS
      · exact yw_give Dy ht hp (fun _ => ⟨rfl, lo_rel D hS⟩) (fun q => by omega) (fun q => by omega)
theorem i_vc_drop {k : Nat} {u : SX} {v : SY} (I : i_Rel k u v) (hk : k + 5 ≤ 2560) (v1 : Int32) : wpX_drop (fun r u' => wpY_drop (fun r' v' => r' = r ∧ i_Rel (k + 5) u' v') v v1) u v1 := by
  obtain ⟨n, L, T, H, A, R, W, G, M, mn, R', W', S, K, C, rfl, rfl, D, hS⟩ := I
  unfold wpX_drop
  refine xw_isThread v1 (fun hb => br_t rfl ?_) (fun t ht et => br_f (by decide) ?_)
  · unfold wpY_drop
    refine br_c (fun _ => ⟨rfl, lo_rel D hS⟩) (fun e => ?_)
    obtain ⟨j, hj, ej⟩ := nI_of e
    subst ej
    refine pk_le j 3 (fun e2 => ?_) (fun e2 => ⟨rfl, lo_rel D hS⟩) rfl rfl hj (by decide)
    exact (lo_nr (i := j) (by decide) hb (by omega) rfl).elim
  · subst et
    have hn := D.1 t ht
    have hi := pk_in (x := nI t) t 4 ht
    refine ⟨hi, ?_⟩
    rw [lo_at n (show t < 2 ^ 31 by omega)]
    have hsub : 0 < n t → upd (lo_a n) (nI t).toNatClampNeg (nI (n t) - 1) = lo_a (lo_u n t (n t - 1)) := by
      intro h0
      rw [nI_clamp (show t < 2 ^ 31 by omega), show nI (n t) - 1 = nI (n t - 1) from pk_sub (b := 1) h0, lo_au]
    refine pk_eq (n t) 0 (fun e => ?_) (fun e => ?_) rfl rfl (by omega) (by decide)
    · unfold wpY_drop
      refine br_f (nI_pos (by omega)) (br_t (nI_le (b := 3) (by omega) (by decide)) ⟨hi, ?_⟩)
      rw [lo_at n (show t < 2 ^ 31 by omega)]
      exact br_t (by rw [e]; rfl) ⟨rfl, lo_rel D hS⟩
    · refine ⟨hi, hi, nm_r (hsub (by omega)) ⟨hi, ?_⟩⟩
      unfold wpY_drop
      refine br_f (nI_pos (by omega)) (br_t (nI_le (b := 3) (by omega) (by decide)) ⟨hi, ?_⟩)
      rw [lo_at n (show t < 2 ^ 31 by omega)]
      exact br_f (nI_ne0 (by omega) (by omega)) ⟨hi, hi, nm_r (hsub (by omega)) ⟨hi, rfl, lo_rel (lo_D_drop D ht) hS⟩⟩
end
section
/-! the questions: both sides meet in the pure lemmas -/
theorem lo_bd (b : Bool) : decide (lo_b b ≠ 0) = b := by cases b <;> decide
theorem lo_dec {x : Int32} {b : Bool} (h : x ≠ 0 ↔ b = true) : decide (x ≠ 0) = b := by
  cases b with
  | true => exact decide_eq_true (h.mpr rfl)
  | false => exact decide_eq_false (fun q => absurd (h.mp q) (by decide))
theorem lo_beq {a b : Bool} (h : a = true ↔ b = true) : a = b := by
  cases a with
  | true => exact (h.mp rfl).symm
  | false =>
    cases b with
    | true => exact h.mpr rfl
    | false => rfl
section
variable {n L T H A : Nat → Nat} {a b : (Nat → Int32) × (Nat → Int32)} {G : Nat → Int32}
theorem lo_R_c (D : lo_D n L T H A) (h : lo_Rr n a b) : lo_c (fun x => decide (b.1 x ≠ 0)) 2401 = lo_c (fun x => decide (a.1 x ≠ 0)) 4096 :=
  (lo_c_y _ _ (fun x hx gx => by rw [(h.1 x hx gx).1]) (fun x hx gx => by rw [lo_R0 D h hx gx]; rfl)).symm
theorem lo_sk_c (D : lo_D n L T H A) (h : lo_Rr n a b) : lo_c (fun x => lo_sk b.1 (lo_gY n A) (lo_fn n lo_q) x) 2401 = lo_c (fun x => lo_sk a.1 (lo_gX n L T H) (lo_fn n lo_p) x) 4096 :=
  (lo_c_y _ _ (fun x hx gx => lo_sk_eq D h hx gx) (fun x hx gx => lo_sk_no D h hx gx)).symm
theorem lo_sk_fo (D : lo_D n L T H A) (h : lo_Rr n a b) (i : Int32) {t : Nat} (ht : t < 4) :
    lo_fo (fun x => lo_sk b.1 (lo_gY n A) (lo_fn n lo_q) x) (fun x => nI (lo_e x t)) i 2401 = lo_fo (fun x => lo_sk a.1 (lo_gX n L T H) (lo_fn n lo_p) x) (fun x => nI (lo_d x t)) i 4096 :=
  (lo_fo_y _ _ _ _ i (fun x hx gx => lo_sk_eq D h hx gx) (fun x hx gx => lo_sk_no D h hx gx) (fun x hx gx => by
    show nI (lo_d x t) = nI (lo_e (lo_y x) t)
    rw [lo_y_e hx gx t ht])).symm
theorem lo_fin (D : lo_D n L T H A) (h : lo_Rr n a b) : b.1 (lo_fn n lo_q) = a.1 (lo_fn n lo_p) ∧ b.2 (lo_fn n lo_q) = a.2 (lo_fn n lo_p) := by
  have q := h.1 _ (lo_fnX D.1).1 (lo_fn_g D.1)
  rw [lo_fn_y D.1] at q
  exact ⟨q.1.symm, q.2.symm⟩
theorem lo_rg_c (D : lo_D n L T H A) : (lo_ls (fun y => lo_rY n A (lo_e y)) 2401).1 = lo_c (fun r => lo_rX n L T H r) 4096 := by
  rw [lo_ls_1]
  exact (lo_c_z _ _ (fun x hx gx => lo_rXz D hx gx) (fun x hx gx => lo_rX_no D gx)).symm
theorem lo_met_c (D : lo_D n L T H A) (h : lo_Rr n a b) {M : Nat → Int32} (hG : ∀ r, r < 4096 → G r = lo_b (lo_rX n L T H r))
    (hM : ∀ r, r < 4096 → (M r ≠ 0 ↔ (G r ≠ 0 ∧ ∃ s, s < 4096 ∧ a.1 s ≠ 0 ∧ ∃ k, k < 16 ∧ r = lo_na s k))) :
    lo_c (fun j => lo_mt b.1 ((lo_ls (fun y => lo_rY n A (lo_e y)) 2401).2 j)) (lo_ls (fun y => lo_rY n A (lo_e y)) 2401).1 = lo_c (fun r => decide (M r ≠ 0)) 4096 := by
  have hG2 : ∀ r, r < 4096 → (G r ≠ 0 ↔ lo_rX n L T H r = true) := by
    intro r hr
    rw [hG r hr]
    cases lo_rX n L T H r with
    | true => exact ⟨fun _ => rfl, fun _ => by decide⟩
    | false => exact ⟨fun q => absurd rfl q, fun q => absurd q (by decide)⟩
  rw [lo_ls_c (fun y => lo_rY n A (lo_e y)) (fun z => lo_mt b.1 z) 2401]
  refine (lo_c_z _ _ (fun r hr g => ?_) (fun r hr g => ?_)).symm
  · refine lo_dec (Iff.trans (hM r hr) ?_)
    rw [hG2 r hr]
    exact lo_met_iff D h hr g
  · refine decide_eq_false (fun q => ?_)
    have q2 := (hG2 r hr).mp ((hM r hr).mp q).1
    rw [lo_rX_no D g] at q2
    exact absurd q2 (by decide)
theorem lo_me_eq (D : lo_D n L T H A) (h : lo_Rr n a b) (hG : ∀ r, r < 4096 → G r = lo_b (lo_rX n L T H r)) {x : Nat} (hx : x < 4096) (gx : lo_g x = true) :
    lo_me a.1 G x = lo_my b.1 (lo_ls (fun y => lo_rY n A (lo_e y)) 2401).2 (lo_ls (fun y => lo_rY n A (lo_e y)) 2401).1 (lo_y x) := by
  unfold lo_me lo_my
  rw [← (h.1 x hx gx).1]
  have e1 : lo_ms (fun r => decide (G r ≠ 0)) x = lo_ms (lo_rX n L T H) x := by
    refine lo_any_congr _ _ 16 0 (fun k _ _ => ?_)
    show decide (G (lo_na x k) ≠ 0) = lo_rX n L T H (lo_na x k)
    rw [hG _ (lo_na_d x k).1, lo_bd]
  rw [e1]
  refine congrArg (fun q => decide (a.1 x ≠ 0) && q) (lo_beq ?_)
  refine Iff.trans (lo_ms_iff D hx gx) ?_
  refine Iff.trans (lo_ls_ex (fun y => lo_rY n A (lo_e y)) (fun z => lo_mY z (lo_y x)) 2401).symm ?_
  rw [lo_any_iff]
  constructor
  · rintro ⟨j, hj, q⟩
    exact ⟨j, by omega, by omega, q⟩
  · rintro ⟨j, _, hj, q⟩
    exact ⟨j, by omega, q⟩
theorem lo_me_no (D : lo_D n L T H A) (h : lo_Rr n a b) {x : Nat} (hx : x < 4096) (gx : lo_g x = false) : lo_me a.1 G x = false := by
  unfold lo_me
  rw [decide_eq_false (show ¬ (a.1 x ≠ 0) from fun q => q (lo_R0 D h hx gx)), Bool.false_and]
theorem lo_ls_le (G : Nat → Bool) (N : Nat) : (lo_ls G N).1 ≤ N := by
  rw [lo_ls_1]
  exact lo_c_le G N
end
section
variable {n A : Nat → Nat} {mn : Int32} {R W S K C : Nat → Int32}
theorem yw_noNumber {post : Int32 → Prop} (t : Int32) (h1 : t < 0 ∨ nI 7 ≤ t → post 1) (h0 : ∀ j, j < 7 → t = nI j → post 0) :
    wpY_noNumber post (mn, lo_a A, lo_a n, R, W, S, K, C) t := by
  unfold wpY_noNumber
  refine br_c (fun e => h1 (Or.inl e)) (fun e => ?_)
  obtain ⟨j, hj, rfl⟩ := nI_of e
  exact pk_le j 6 (fun e4 => h0 j (by omega) rfl) (fun e4 => h1 (Or.inr (nI_le (by omega) hj))) rfl rfl hj (by decide)
theorem yw_reached_bad {post : Int32 → SY → Prop} {p q r s : Int32} (hb : (p < 0 ∨ nI 7 ≤ p) ∨ (q < 0 ∨ nI 7 ≤ q) ∨ (r < 0 ∨ nI 7 ≤ r) ∨ (s < 0 ∨ nI 7 ≤ s))
    (h : post (-1) (mn, lo_a A, lo_a n, R, W, S, K, C)) : wpY_reached post (mn, lo_a A, lo_a n, R, W, S, K, C) p q r s := by
  unfold wpY_reached
  refine yw_noNumber p (fun _ => br_f (by decide) h) (fun i hi e1 => br_t rfl ?_)
  refine yw_noNumber q (fun _ => br_f (by decide) h) (fun j hj e2 => br_t rfl ?_)
  refine yw_noNumber r (fun _ => br_f (by decide) h) (fun k hk e3 => br_t rfl ?_)
  refine yw_noNumber s (fun _ => br_f (by decide) h) (fun l hl e4 => br_t rfl ?_)
  rcases hb with z | z | z | z
  · exact (lo_nr (by decide) z hi e1).elim
  · exact (lo_nr (by decide) z hj e2).elim
  · exact (lo_nr (by decide) z hk e3).elim
  · exact (lo_nr (by decide) z hl e4).elim
theorem lo_ixY (p q r s : Nat) : (((343 * nI p) + (49 * nI q)) + (7 * nI r)) + nI s = nI (p * 343 + q * 49 + r * 7 + s) := by
  rw [show (343 : Int32) = nI 343 from rfl, show (49 : Int32) = nI 49 from rfl, show (7 : Int32) = nI 7 from rfl, pk_mul, pk_mul, pk_mul, nI_add, nI_add, nI_add]
  exact congrArg nI (by omega)
theorem yw_reached (D : lo_Dy n A S) {post : Int32 → SY → Prop} {p q r s : Nat} (hp : p < 7) (hq : q < 7) (hr : r < 7) (hs : s < 7)
    (h : ∀ b, lo_I0 2401 b → post (lo_b (decide ((lo_ex (lo_gY n A) lo_q b 2401).1 (p * 343 + q * 49 + r * 7 + s) ≠ 0))) (mn, lo_a A, lo_a n, (lo_ex (lo_gY n A) lo_q b 2401).1, (lo_ex (lo_gY n A) lo_q b 2401).2, S, K, C)) :
    wpY_reached post (mn, lo_a A, lo_a n, R, W, S, K, C) (nI p) (nI q) (nI r) (nI s) := by
  unfold wpY_reached
  have hlt := (lo_dig7 hp hq hr hs).1
  refine yw_noNumber (nI p) (fun z => (lo_nr (by decide) z hp rfl).elim) (fun _ _ _ => br_t rfl ?_)
  refine yw_noNumber (nI q) (fun z => (lo_nr (by decide) z hq rfl).elim) (fun _ _ _ => br_t rfl ?_)
  refine yw_noNumber (nI r) (fun z => (lo_nr (by decide) z hr rfl).elim) (fun _ _ _ => br_t rfl ?_)
  refine yw_noNumber (nI s) (fun z => (lo_nr (by decide) z hs rfl).elim) (fun _ _ _ => br_t rfl ?_)
  refine yw_work D (fun b hb => ?_)
  have h1 := h b hb
  try dsimp only
  rw [lo_ixY]
  refine ⟨pk_in (p * 343 + q * 49 + r * 7 + s) 2401 hlt, ?_⟩
  rw [nI_clamp (show p * 343 + q * 49 + r * 7 + s < 2 ^ 31 by omega)]
  refine br_c (fun e => ?_) (fun e => ?_)
  · rw [decide_eq_false (fun q => q e)] at h1; exact h1
  · rw [decide_eq_true e] at h1; exact h1
end
end
section
/-! what is owed of the questions -/
theorem i_vc_states {k : Nat} {u : SX} {v : SY} (I : i_Rel k u v) (hk : k + 5 ≤ 2560) : wpX_states (fun r u' => wpY_states (fun r' v' => r' = r ∧ i_Rel (k + 5) u' v') v) u := by
  obtain ⟨n, L, T, H, A, R, W, G, M, mn, R', W', S, K, C, rfl, rfl, D, hS⟩ := I
  unfold wpX_states
  refine xw_explore (lo_DX D) (fun a ha => ?_)
  refine ⟨4097, xw_cnt1 (fun x => decide ((lo_ex (lo_gX n L T H) lo_p a 4096).1 x ≠ 0)) (fun _ _ => rfl) ?_⟩
  unfold wpY_states
  refine yw_work (lo_DY D hS) (fun b hb => ?_)
  refine ⟨2402, yw_cnt1 (fun x => decide ((lo_ex (lo_gY n A) lo_q b 2401).1 x ≠ 0)) (fun _ _ => rfl) ⟨?_, lo_rel D hS⟩⟩
  exact congrArg nI (lo_R_c D (lo_go_rel D ha hb))
theorem i_vc_stuck {k : Nat} {u : SX} {v : SY} (I : i_Rel k u v) (hk : k + 5 ≤ 2560) : wpX_stuck (fun r u' => wpY_stuck (fun r' v' => r' = r ∧ i_Rel (k + 5) u' v') v) u := by
  obtain ⟨n, L, T, H, A, R, W, G, M, mn, R', W', S, K, C, rfl, rfl, D, hS⟩ := I
  have Dy := lo_DY D hS
  unfold wpX_stuck
  refine xw_explore (lo_DX D) (fun a ha => ?_)
  refine ⟨4097, xw_cnt4 (lo_DX D) ?_⟩
  unfold wpY_stuck
  refine yw_work Dy (fun b hb => ?_)
  refine yw_last Dy ?_
  refine ⟨2402, yw_cnt4 Dy (lo_ex_iY D.1 (lo_I0_iY hb) 2401 (Nat.le_refl _)) (lo_fnY D.1).1 ⟨?_, lo_rel D hS⟩⟩
  exact congrArg nI (lo_sk_c D (lo_go_rel D ha hb))
theorem i_vc_stuckAt {k : Nat} {u : SX} {v : SY} (I : i_Rel k u v) (hk : k + 5 ≤ 2560) (v1 : Int32) (v2 : Int32) : wpX_stuckAt (fun r u' => wpY_stuckAt (fun r' v' => r' = r ∧ i_Rel (k + 5) u' v') v v1 v2) u v1 v2 := by
  obtain ⟨n, L, T, H, A, R, W, G, M, mn, R', W', S, K, C, rfl, rfl, D, hS⟩ := I
  have Dy := lo_DY D hS
  unfold wpX_stuckAt
  refine xw_isThread v2 (fun hb => br_t rfl ?_) (fun t ht et => br_f (by decide) ?_)
  · unfold wpY_stuckAt
    refine br_c (fun _ => ⟨rfl, lo_rel D hS⟩) (fun e => ?_)
    obtain ⟨j, hj, ej⟩ := nI_of e
    subst ej
    refine pk_le j 3 (fun e2 => ?_) (fun e2 => ⟨rfl, lo_rel D hS⟩) rfl rfl hj (by decide)
    exact (lo_nr (i := j) (by decide) hb (by omega) rfl).elim
  · subst et
    refine xw_explore (lo_DX D) (fun a ha => ?_)
    refine ⟨4097, xw_at (lo_DX D) v1 ht ?_⟩
    unfold wpY_stuckAt
    refine br_f (nI_pos (by omega)) (br_t (nI_le (b := 3) (by omega) (by decide)) ?_)
    refine yw_work Dy (fun b hb => ?_)
    refine yw_last Dy ?_
    refine ⟨2402, yw_at Dy (lo_ex_iY D.1 (lo_I0_iY hb) 2401 (Nat.le_refl _)) v1 ht (lo_fnY D.1).1 ⟨?_, lo_rel D hS⟩⟩
    exact congrArg lo_an (lo_sk_fo D (lo_go_rel D ha hb) v1 ht)
theorem i_vc_canFinish {k : Nat} {u : SX} {v : SY} (I : i_Rel k u v) (hk : k + 5 ≤ 2560) : wpX_canFinish (fun r u' => wpY_canFinish (fun r' v' => r' = r ∧ i_Rel (k + 5) u' v') v) u := by
  obtain ⟨n, L, T, H, A, R, W, G, M, mn, R', W', S, K, C, rfl, rfl, D, hS⟩ := I
  have Dy := lo_DY D hS
  have hX := (lo_fnX D.1).1
  have hY := (lo_fnY D.1).1
  unfold wpX_canFinish
  refine xw_explore (lo_DX D) (fun a ha => ?_)
  refine xw_fin ?_
  refine ⟨pk_in (lo_fn n lo_p) 4096 hX, ?_⟩
  rw [nI_clamp (show lo_fn n lo_p < 2 ^ 31 by omega)]
  refine br_c (fun e => ?_) (fun e => ?_)
  · unfold wpY_canFinish
    refine yw_work Dy (fun b hb => ?_)
    refine yw_last Dy ?_
    refine ⟨pk_in (lo_fn n lo_q) 2401 hY, ?_⟩
    rw [nI_clamp (show lo_fn n lo_q < 2 ^ 31 by omega)]
    exact br_t (by rw [(lo_fin D (lo_go_rel D ha hb)).1]; exact e) ⟨rfl, lo_rel D hS⟩
  · unfold wpY_canFinish
    refine yw_work Dy (fun b hb => ?_)
    refine yw_last Dy ?_
    refine ⟨pk_in (lo_fn n lo_q) 2401 hY, ?_⟩
    rw [nI_clamp (show lo_fn n lo_q < 2 ^ 31 by omega)]
    exact br_f (by rw [(lo_fin D (lo_go_rel D ha hb)).1]; exact e) ⟨rfl, lo_rel D hS⟩
theorem i_vc_reached {k : Nat} {u : SX} {v : SY} (I : i_Rel k u v) (hk : k + 5 ≤ 2560) (v1 : Int32) (v2 : Int32) (v3 : Int32) (v4 : Int32) : wpX_reached (fun r u' => wpY_reached (fun r' v' => r' = r ∧ i_Rel (k + 5) u' v') v v1 v2 v3 v4) u v1 v2 v3 v4 := by
  obtain ⟨n, L, T, H, A, R, W, G, M, mn, R', W', S, K, C, rfl, rfl, D, hS⟩ := I
  have Dy := lo_DY D hS
  unfold wpX_reached
  refine xw_isCount v1 (fun hb => br_t rfl (yw_reached_bad (Or.inl hb) ⟨rfl, lo_rel D hS⟩)) (fun p hp ep => br_f (by decide) ?_)
  refine xw_isCount v2 (fun hb => br_t rfl (yw_reached_bad (Or.inr (Or.inl hb)) ⟨rfl, lo_rel D hS⟩)) (fun q hq eq => br_f (by decide) ?_)
  refine xw_isCount v3 (fun hb => br_t rfl (yw_reached_bad (Or.inr (Or.inr (Or.inl hb))) ⟨rfl, lo_rel D hS⟩)) (fun r hr er => br_f (by decide) ?_)
  refine xw_isCount v4 (fun hb => br_t rfl (yw_reached_bad (Or.inr (Or.inr (Or.inr hb))) ⟨rfl, lo_rel D hS⟩)) (fun s hs es => br_f (by decide) ?_)
  subst ep eq er es
  obtain ⟨hX, d0, d1, d2, d3⟩ := lo_dig (a := p) (b := q) (c := r) (d := s) (by omega) (by omega) (by omega) (by omega)
  obtain ⟨hY, e0, e1, e2, e3⟩ := lo_dig7 hp hq hr hs
  have gX : lo_g (p * 512 + q * 64 + r * 8 + s) = true := lo_g_of (lo_4 (by rw [d0]; omega) (by rw [d1]; omega) (by rw [d2]; omega) (by rw [d3]; omega))
  have ey : lo_y (p * 512 + q * 64 + r * 8 + s) = p * 343 + q * 49 + r * 7 + s :=
    lo_e_inj (lo_y_lt hX gX) hY (lo_4 (by rw [lo_y_e hX gX 0 (by decide), d0, e0]) (by rw [lo_y_e hX gX 1 (by decide), d1, e1]) (by rw [lo_y_e hX gX 2 (by decide), d2, e2]) (by rw [lo_y_e hX gX 3 (by decide), d3, e3]))
  refine xw_explore (lo_DX D) (fun a ha => ?_)
  refine xw_oneBy (t := 0) (by decide) ?_
  refine xw_oneBy (t := 1) (by decide) ?_
  refine xw_oneBy (t := 2) (by decide) ?_
  refine xw_oneBy (t := 3) (by decide) ?_
  refine nm_r (e' := nI (p * 512 + q * 64 + r * 8 + s)) ?_ ?_
  · rw [pk_mul, pk_mul, pk_mul, pk_mul, nI_add, nI_add, nI_add]
    show nI (p * 512 + q * 64 + r * 8 + s * 1) = _
    rw [Nat.mul_one]
  · refine ⟨pk_in (p * 512 + q * 64 + r * 8 + s) 4096 hX, ?_⟩
    rw [nI_clamp (show p * 512 + q * 64 + r * 8 + s < 2 ^ 31 by omega)]
    refine br_c (fun e => ?_) (fun e => ?_)
    · refine yw_reached Dy hp hq hr hs (fun b hb => ⟨?_, lo_rel D hS⟩)
      have hh := ((lo_go_rel D ha hb).1 _ hX gX).1
      rw [ey] at hh
      rw [← hh, decide_eq_false (fun z => z e)]
      rfl
    · refine yw_reached Dy hp hq hr hs (fun b hb => ⟨?_, lo_rel D hS⟩)
      have hh := ((lo_go_rel D ha hb).1 _ hX gX).1
      rw [ey] at hh
      rw [← hh, decide_eq_true e]
      rfl
theorem i_vc_ways {k : Nat} {u : SX} {v : SY} (I : i_Rel k u v) (hk : k + 5 ≤ 2560) : wpX_ways (fun r u' => wpY_ways (fun r' v' => r' = r ∧ i_Rel (k + 5) u' v') v) u := by
  obtain ⟨n, L, T, H, A, R, W, G, M, mn, R', W', S, K, C, rfl, rfl, D, hS⟩ := I
  have Dy := lo_DY D hS
  have hX := (lo_fnX D.1).1
  have hY := (lo_fnY D.1).1
  unfold wpX_ways
  refine xw_explore (lo_DX D) (fun a ha => ?_)
  refine xw_fin ?_
  refine ⟨pk_in (lo_fn n lo_p) 4096 hX, ?_⟩
  rw [nI_clamp (show lo_fn n lo_p < 2 ^ 31 by omega)]
  unfold wpY_ways
  refine yw_work Dy (fun b hb => ?_)
  refine yw_last Dy ?_
  refine ⟨pk_in (lo_fn n lo_q) 2401 hY, ?_⟩
  rw [nI_clamp (show lo_fn n lo_q < 2 ^ 31 by omega)]
  exact ⟨(lo_fin D (lo_go_rel D ha hb)).2, lo_rel D hS⟩
theorem i_vc_rings {k : Nat} {u : SX} {v : SY} (I : i_Rel k u v) (hk : k + 5 ≤ 2560) : wpX_rings (fun r u' => wpY_rings (fun r' v' => r' = r ∧ i_Rel (k + 5) u' v') v) u := by
  obtain ⟨n, L, T, H, A, R, W, G, M, mn, R', W', S, K, C, rfl, rfl, D, hS⟩ := I
  unfold wpX_rings
  refine xw_findRings (lo_DX D) (fun G' hG => ?_)
  refine ⟨4097, xw_cnt2 (fun r => lo_rX n L T H r) (fun r hr => by rw [hG r hr, lo_bd]) ?_⟩
  unfold wpY_rings
  refine yw_findRings (lo_DY D hS) (fun K' C' hK => ?_)
  exact ⟨congrArg nI (lo_rg_c D), lo_rel D hS⟩
theorem i_vc_ringsMet {k : Nat} {u : SX} {v : SY} (I : i_Rel k u v) (hk : k + 5 ≤ 2560) : wpX_ringsMet (fun r u' => wpY_ringsMet (fun r' v' => r' = r ∧ i_Rel (k + 5) u' v') v) u := by
  obtain ⟨n, L, T, H, A, R, W, G, M, mn, R', W', S, K, C, rfl, rfl, D, hS⟩ := I
  have Dy := lo_DY D hS
  unfold wpX_ringsMet
  refine xw_explore (lo_DX D) (fun a ha => ?_)
  refine xw_findRings (lo_DX D) (fun G' hG => ?_)
  refine xw_findMet (fun M' hM => ?_)
  refine ⟨4097, xw_cnt3 (fun r => decide (M' r ≠ 0)) (fun _ _ => rfl) ?_⟩
  unfold wpY_ringsMet
  refine yw_findRings Dy (fun K' C' hK => ?_)
  refine yw_work Dy (fun b hb => ?_)
  refine ⟨_, yw_cnt3 Dy (lo_ls_le _ 2401) hK (lo_ls_lt _ 2401) ⟨?_, lo_rel D hS⟩⟩
  exact congrArg nI (lo_met_c D (lo_go_rel D ha hb) hG hM)
theorem i_vc_statesMet {k : Nat} {u : SX} {v : SY} (I : i_Rel k u v) (hk : k + 5 ≤ 2560) : wpX_statesMet (fun r u' => wpY_statesMet (fun r' v' => r' = r ∧ i_Rel (k + 5) u' v') v) u := by
  obtain ⟨n, L, T, H, A, R, W, G, M, mn, R', W', S, K, C, rfl, rfl, D, hS⟩ := I
  have Dy := lo_DY D hS
  unfold wpX_statesMet
  refine xw_explore (lo_DX D) (fun a ha => ?_)
  refine xw_findRings (lo_DX D) (fun G' hG => ?_)
  refine ⟨4097, xw_cnt5 ?_⟩
  unfold wpY_statesMet
  refine yw_findRings Dy (fun K' C' hK => ?_)
  refine yw_work Dy (fun b hb => ?_)
  refine ⟨2402, yw_cnt5 Dy (lo_ls_le _ 2401) hK (lo_ls_lt _ 2401) ⟨?_, lo_rel D hS⟩⟩
  have h := lo_go_rel D ha hb
  exact congrArg nI (lo_c_y _ _ (fun x hx gx => lo_me_eq D h hG hx gx) (fun x hx gx => lo_me_no D h hx gx)).symm
theorem i_vc_soonest {k : Nat} {u : SX} {v : SY} (I : i_Rel k u v) (hk : k + 5 ≤ 2560) : wpX_soonest (fun r u' => wpY_soonest (fun r' v' => r' = r ∧ i_Rel (k + 5) u' v') v) u := by
  obtain ⟨n, L, T, H, A, R, W, G, M, mn, R', W', S, K, C, rfl, rfl, D, hS⟩ := I
  have Dy := lo_DY D hS
  unfold wpX_soonest
  refine xw_explore (lo_DX D) (fun a ha => ?_)
  refine xw_findRings (lo_DX D) (fun G' hG => ?_)
  refine ⟨4097, xw_soon ?_⟩
  unfold wpY_soonest
  refine yw_findRings Dy (fun K' C' hK => ?_)
  refine yw_work Dy (fun b hb => ?_)
  have h := lo_go_rel D ha hb
  have hso := lo_so_ans (lo_so_rel (fun x => lo_me (lo_ex (lo_gX n L T H) lo_p a 4096).1 G' x) (fun y => lo_my (lo_ex (lo_gY n A) lo_q b 2401).1 (lo_ls (fun y => lo_rY n A (lo_e y)) 2401).2 (lo_ls (fun y => lo_rY n A (lo_e y)) 2401).1 y) (fun x hx gx => lo_me_eq D h hG hx gx) (fun x hx gx => lo_me_no D h hx gx))
  exact ⟨2402, yw_soon Dy (lo_ls_le _ 2401) hK (lo_ls_lt _ 2401) (fun e => ⟨(hso.1 e).symm, lo_rel D hS⟩) (fun e => ⟨(hso.2 e).symm, lo_rel D hS⟩)⟩
end
