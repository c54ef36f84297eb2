/-! numbers as the two programs reckon them -/
def lo_a (f : Nat → Nat) : Nat → Int32 := fun j => nI (f j)
def lo_b (b : Bool) : Int32 := if b = true then 1 else 0
theorem lo_b_t {b : Bool} (h : b = true) : lo_b b = 1 := if_pos h
theorem lo_b_f {b : Bool} (h : b = false) : lo_b b = 0 := if_neg (by rw [h]; decide)
theorem lo_b0 (b : Bool) : lo_b b = 0 ↔ b = false := by cases b <;> decide
theorem lo_bn (b : Bool) : narrow .boolean (.int (lo_b b)) = .int (lo_b b) := by cases b <;> rfl
theorem lo_au (f : Nat → Nat) (k v : Nat) : upd (lo_a f) k (nI v) = lo_a (lo_u f k v) := by
  funext j
  show (if j = k then nI v else nI (f j)) = nI (if j = k then v else f j)
  by_cases h : j = k
  · rw [if_pos h, if_pos h]
  · rw [if_neg h, if_neg h]
theorem lo_bit : ∀ m, m < 32 → ∀ p, p < 5 → ((nI m &&& ((1 : Int32) <<< (nI p &&& 31))) = 0 ↔ m.testBit p = false) := by decide +kernel
theorem lo_bitY : ∀ m, m < 32 → ∀ p, p < 5 → ((nI m >>> (nI p &&& 31)) &&& 1) = lo_b (m.testBit p) := by decide +kernel
theorem lo_xorI : ∀ m, m < 32 → ∀ p, p < 5 → nI m ^^^ ((1 : Int32) <<< (nI p &&& 31)) = nI (m ^^^ 2 ^ p) := by decide +kernel
theorem lo_orI : ∀ m, m < 32 → ∀ p, p < 5 → nI m ||| ((1 : Int32) <<< (nI p &&& 31)) = nI (m ||| 2 ^ p) := by decide +kernel
theorem lo_clrI : ∀ m, m < 32 → ∀ p, p < 5 → nI m &&& (((1 : Int32) <<< ((nI (8 + p) - 8) &&& 31)) ^^^ (-1)) = nI (m &&& (31 - 2 ^ p)) := by decide +kernel
theorem lo_m_take : ∀ m, m < 32 → ∀ p, p < 5 → m.testBit p = false → m ^^^ 2 ^ p = lo_m m p := by decide +kernel
theorem lo_m_give : ∀ m, m < 32 → ∀ p, p < 5 → m.testBit p = true → m ^^^ 2 ^ p = lo_m m (8 + p) := by decide +kernel
theorem lo_xor_lt : ∀ m, m < 32 → ∀ p, p < 5 → m ^^^ 2 ^ p < 32 := by decide +kernel
theorem lo_oneI : ∀ t, t < 4 → (1 : Int32) <<< ((9 - 3 * nI t) &&& 31) = nI (lo_p t) := by decide +kernel
theorem lo_dI {x t : Nat} (hx : x < 4096) (ht : t < 4) : (nI x >>> ((9 - 3 * nI t) &&& 31)) &&& 7 = nI (lo_d x t) := by
  have h9 : ∀ k, x / 2 ^ k < 2 ^ 32 := fun k => Nat.lt_of_le_of_lt (Nat.div_le_self _ _) (by omega)
  have h : t = 0 ∨ t = 1 ∨ t = 2 ∨ t = 3 := by omega
  rcases h with rfl | rfl | rfl | rfl
  · rw [pk_shrN (by omega) _ 9 (by decide), pk_andN (h9 9) 3 (by decide)]; rfl
  · rw [pk_shrN (by omega) _ 6 (by decide), pk_andN (h9 6) 3 (by decide)]; rfl
  · rw [pk_shrN (by omega) _ 3 (by decide), pk_andN (h9 3) 3 (by decide)]; rfl
  · rw [pk_shrN (by omega) _ 0 (by decide), pk_andN (h9 0) 3 (by decide)]; rfl
theorem lo_cellI (t d : Nat) : nI t * 8 + nI d = nI (t * 8 + d) := by
  rw [show (8 : Int32) = nI 8 from rfl, pk_mul, nI_add]
theorem lo_cell6 (t d : Nat) : 6 * nI t + nI d = nI (6 * t + d) := by
  rw [show (6 : Int32) = nI 6 from rfl, pk_mul, nI_add]
theorem lo_rem7 {v : Nat} (h : v < 2 ^ 31) : nI v - nI v / 7 * 7 = nI (v % 7) := pk_rem h (by decide) (by decide)
theorem lo_q_pos (t : Nat) : 0 < lo_q t ∧ lo_q t ≤ 343 := by
  unfold lo_q
  split <;> decide
theorem lo_p_pos (t : Nat) : 0 < lo_p t ∧ lo_p t ≤ 512 := by
  unfold lo_p
  split <;> decide
theorem lo_eI {y t : Nat} (hy : y < 2401) : nI y / nI (lo_q t) - nI y / nI (lo_q t) / 7 * 7 = nI (lo_e y t) := by
  have hq := lo_q_pos t
  rw [pk_div (by omega) hq.1 (by omega), lo_rem7 (Nat.lt_of_le_of_lt (Nat.div_le_self _ _) (by omega))]
  rfl
theorem lo_andI (a b : Nat) : nI a &&& nI b = nI (a &&& b) := by
  apply Int32.toBitVec_inj.1
  show BitVec.ofNat 32 a &&& BitVec.ofNat 32 b = BitVec.ofNat 32 (a &&& b)
  apply BitVec.eq_of_getLsbD_eq
  intro i hi
  simp [hi]
theorem lo_or2 (a b : Nat) : nI a ||| nI b = nI (a ||| b) := by
  apply Int32.toBitVec_inj.1
  show BitVec.ofNat 32 a ||| BitVec.ofNat 32 b = BitVec.ofNat 32 (a ||| b)
  apply BitVec.eq_of_getLsbD_eq
  intro i hi
  simp [hi]
theorem lo_bit16 : ∀ k, k < 16 → ∀ t, t < 4 → ((nI k &&& ((1 : Int32) <<< (nI t &&& 31))) = 0 ↔ k.testBit t = false) := by decide +kernel
/-- a loop over a fold -/
theorem lo_loop {σ : Type} (W : Nat → Nat → σ → Prop) (f : Nat → σ → σ) (z : σ) (e : Nat) (hx : ∀ n, W (n + 1) e (lo_F f z e))
    (hs : ∀ n i, i < e → W n (i + 1) (lo_F f z (i + 1)) → W (n + 1) i (lo_F f z i)) : W (e + 1) 0 z :=
  loop_i W (fun i s => s = lo_F f z i) e (fun n s h => by rw [h]; exact hx n) (fun n i s hi h k => by rw [h]; exact hs n i hi (k _ rfl)) (e + 1) 0 z (Nat.zero_le _) (by omega) rfl
theorem lo_loopS {σ : Type} (W : Nat → Nat → σ → Prop) (S : Nat → σ) (e : Nat) (hx : ∀ n, W (n + 1) e (S e))
    (hs : ∀ n i, i < e → W n (i + 1) (S (i + 1)) → W (n + 1) i (S i)) : W (e + 1) 0 (S 0) :=
  loop_i W (fun i s => s = S i) e (fun n s h => by rw [h]; exact hx n) (fun n i s hi h k => by rw [h]; exact hs n i hi (k _ rfl)) (e + 1) 0 (S 0) (Nat.zero_le _) (by omega) rfl
theorem lo_at (f : Nat → Nat) {t : Nat} (h : t < 2 ^ 31) : lo_a f (nI t).toNatClampNeg = nI (f t) := by
  rw [nI_clamp h]
  rfl
theorem lo_br {b : Bool} {A B : Prop} (f : b = false → A) (g : b = true → B) : (lo_b b = 0 → A) ∧ (¬ lo_b b = 0 → B) := by
  cases b with
  | false => exact br_t rfl (f rfl)
  | true => exact br_f (by decide) (g rfl)
/-- a bit test, as the component makes it -/
theorem lo_brb {m p : Nat} {y : Int32} {A B : Prop} (hy : y = nI m) (hm : m < 32) (hp : p < 5) (f : m.testBit p = false → A) (g : m.testBit p = true → B) :
    ((y &&& ((1 : Int32) <<< (nI p &&& 31))) = 0 → A) ∧ (¬ (y &&& ((1 : Int32) <<< (nI p &&& 31))) = 0 → B) := by
  subst hy
  have h := lo_bit m hm p hp
  refine ⟨fun e => f (h.mp e), fun e => g ?_⟩
  cases q : m.testBit p with
  | true => rfl
  | false => exact absurd (h.mpr q) e
/-- a bit test, as the reference makes it -/
theorem lo_brY {m p : Nat} {A B : Prop} (hm : m < 32) (hp : p < 5) (f : m.testBit p = true → A) (g : m.testBit p = false → B) :
    (((nI m >>> (nI p &&& 31)) &&& 1) = 1 → A) ∧ (¬ ((nI m >>> (nI p &&& 31)) &&& 1) = 1 → B) := by
  rw [lo_bitY m hm p hp]
  cases q : m.testBit p with
  | true => exact br_t rfl (f q)
  | false => exact br_f (by decide) (g q)
theorem lo_br0 {m p : Nat} {A B : Prop} (hm : m < 32) (hp : p < 5) (f : m.testBit p = false → A) (g : m.testBit p = true → B) :
    (((nI m >>> (nI p &&& 31)) &&& 1) = 0 → A) ∧ (¬ ((nI m >>> (nI p &&& 31)) &&& 1) = 0 → B) := by
  rw [lo_bitY m hm p hp]
  cases q : m.testBit p with
  | true => exact br_f (by decide) (g q)
  | false => exact br_t rfl (f q)
theorem lo_v1 : vp_nar .boolean 1 = 1 := by
  show (1 : Int32) &&& 1 = 1
  decide
theorem lo_v0 : vp_nar .boolean 0 = 0 := by
  show (0 : Int32) &&& 1 = 0
  decide
theorem lo_vb (b : Bool) : vp_nar .boolean (lo_b b) = lo_b b := by
  cases b with
  | false => exact lo_v0
  | true => exact lo_v1
