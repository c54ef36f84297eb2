/-! which rings are met, and in which states -/
def lo_na (s k : Nat) : Nat :=
  (if k.testBit 0 = true then lo_d s 0 else 7) * 512 + (if k.testBit 1 = true then lo_d s 1 else 7) * 64 + (if k.testBit 2 = true then lo_d s 2 else 7) * 8 + (if k.testBit 3 = true then lo_d s 3 else 7)
theorem lo_na_b (s k t : Nat) : (if k.testBit t = true then lo_d s t else 7) < 8 := by
  by_cases h : k.testBit t = true
  · rw [if_pos h]; exact lo_d_lt s t
  · rw [if_neg h]; decide
theorem lo_na_d (s k : Nat) : lo_na s k < 4096 ∧ ∀ t, t < 4 → lo_d (lo_na s k) t = if k.testBit t = true then lo_d s t else 7 := by
  obtain ⟨h, h0, h1, h2, h3⟩ := lo_dig (lo_na_b s k 0) (lo_na_b s k 1) (lo_na_b s k 2) (lo_na_b s k 3)
  exact ⟨h, lo_4 h0 h1 h2 h3⟩
theorem lo_kb : ∀ a b c d : Bool, a.toNat + 2 * b.toNat + 4 * c.toNat + 8 * d.toNat < 16 ∧ (a.toNat + 2 * b.toNat + 4 * c.toNat + 8 * d.toNat).testBit 0 = a ∧ (a.toNat + 2 * b.toNat + 4 * c.toNat + 8 * d.toNat).testBit 1 = b ∧ (a.toNat + 2 * b.toNat + 4 * c.toNat + 8 * d.toNat).testBit 2 = c ∧ (a.toNat + 2 * b.toNat + 4 * c.toNat + 8 * d.toNat).testBit 3 = d := by decide
theorem lo_kk (f : Nat → Bool) : ∃ k, k < 16 ∧ ∀ t, t < 4 → k.testBit t = f t := by
  obtain ⟨h, h0, h1, h2, h3⟩ := lo_kb (f 0) (f 1) (f 2) (f 3)
  exact ⟨_, h, lo_4 h0 h1 h2 h3⟩
/-- ring z is met in state y -/
def lo_mY (z y : Nat) : Bool := !lo_any (fun t => decide (lo_e z t < 6) && decide (lo_e z t ≠ lo_e y t)) 4 0
theorem lo_mY_iff (z y : Nat) : lo_mY z y = true ↔ ∀ t, t < 4 → lo_e z t < 6 → lo_e z t = lo_e y t := by
  unfold lo_mY
  rw [Bool.not_eq_true', ← Bool.not_eq_true, lo_any_iff]
  constructor
  · intro h t ht h6
    apply Classical.byContradiction
    intro hne
    exact h ⟨t, by omega, by omega, Bool.and_eq_true_iff.mpr ⟨decide_eq_true h6, decide_eq_true hne⟩⟩
  · rintro h ⟨t, _, ht, hb⟩
    have hc := Bool.and_eq_true_iff.mp hb
    exact (of_decide_eq_true hc.2) (h t (by omega) (of_decide_eq_true hc.1))
theorem lo_M1 {s k : Nat} (hs : s < 4096) (gs : lo_g s = true) (g : lo_k (lo_na s k) = true) : lo_mY (lo_z (lo_na s k)) (lo_y s) = true := by
  rw [lo_mY_iff]
  intro t ht h6
  obtain ⟨hr, hd⟩ := lo_na_d s k
  rw [lo_z_e hr g t ht] at h6 ⊢
  rw [lo_y_e hs gs t ht]
  have h1 := hd t ht
  by_cases q : lo_d (lo_na s k) t = 7
  · rw [if_pos q] at h6; omega
  · rw [if_neg q]
    by_cases q2 : k.testBit t = true
    · rw [if_pos q2] at h1; exact h1
    · rw [if_neg q2] at h1; exact absurd h1 q
theorem lo_M2 {r s : Nat} (hr : r < 4096) (g : lo_k r = true) (hs : s < 4096) (gs : lo_g s = true) (h : lo_mY (lo_z r) (lo_y s) = true) : ∃ k, k < 16 ∧ r = lo_na s k := by
  rw [lo_mY_iff] at h
  obtain ⟨k, hk, ht⟩ := lo_kk (fun t => decide (lo_d r t ≠ 7))
  refine ⟨k, hk, lo_d_inj hr (lo_na_d s k).1 (fun t h4 => ?_)⟩
  rw [(lo_na_d s k).2 t h4, ht t h4]
  by_cases q : lo_d r t = 7
  · rw [if_neg (by rw [decide_eq_true_eq]; exact fun z => z q)]; exact q
  · rw [if_pos (by rw [decide_eq_true_eq]; exact q)]
    have h1 := h t h4
    rw [lo_z_e hr g t h4, if_neg q, lo_y_e hs gs t h4] at h1
    have h2 := lo_k_to g t h4
    have h3 := lo_d_lt r t
    exact h1 (by omega)
theorem lo_z_sur {y : Nat} (hy : y < 2401) : ∃ r, r < 4096 ∧ lo_k r = true ∧ lo_z r = y := by
  have hb : ∀ t, t < 4 → (if lo_e y t = 6 then 7 else lo_e y t) < 8 := by
    intro t _
    have := lo_e_lt y t
    by_cases q : lo_e y t = 6
    · rw [if_pos q]; decide
    · rw [if_neg q]; omega
  obtain ⟨x, hx, _, hd⟩ := lo_mk (fun t => if lo_e y t = 6 then 7 else lo_e y t) hb
  have hd' : ∀ t, t < 4 → lo_d x t = if lo_e y t = 6 then 7 else lo_e y t := hd
  have g : lo_k x = true := lo_k_of (fun t ht => by
    rw [hd' t ht]
    by_cases q : lo_e y t = 6
    · rw [if_pos q]; decide
    · rw [if_neg q]; exact q)
  refine ⟨x, hx, g, lo_e_inj (lo_z_lt hx g) hy (fun t ht => ?_)⟩
  rw [lo_z_e hx g t ht, hd' t ht]
  have h7 := lo_e_lt y t
  by_cases q : lo_e y t = 6
  · rw [if_pos q, if_pos rfl, q]
  · rw [if_neg q, if_neg (by omega)]
/-- a ring of the next actions in state s -/
def lo_ms (G : Nat → Bool) (s : Nat) : Bool := lo_any (fun k => G (lo_na s k)) 16 0
section
variable {n L T H A : Nat → Nat} {a b : (Nat → Int32) × (Nat → Int32)}
theorem lo_rX_k (D : lo_D n L T H A) {r : Nat} (h : lo_rX n L T H r = true) : lo_k r = true := by
  cases g : lo_k r with
  | true => rfl
  | false => rw [lo_rX_no D g] at h; exact h
theorem lo_rXz (D : lo_D n L T H A) {r : Nat} (hr : r < 4096) (g : lo_k r = true) : lo_rX n L T H r = lo_rY n A (lo_e (lo_z r)) := lo_rX_eq D g (lo_z_e hr g)
theorem lo_ms_iff (D : lo_D n L T H A) {s : Nat} (hs : s < 4096) (gs : lo_g s = true) :
    lo_ms (lo_rX n L T H) s = true ↔ ∃ y, y < 2401 ∧ lo_rY n A (lo_e y) = true ∧ lo_mY y (lo_y s) = true := by
  unfold lo_ms
  rw [lo_any_iff]
  constructor
  · rintro ⟨k, _, hk, h⟩
    have hr := (lo_na_d s k).1
    have g := lo_rX_k D h
    exact ⟨lo_z (lo_na s k), lo_z_lt hr g, by rw [← lo_rXz D hr g]; exact h, lo_M1 hs gs g⟩
  · rintro ⟨y, hy, h1, h2⟩
    obtain ⟨r, hr, g, e⟩ := lo_z_sur hy
    subst e
    obtain ⟨k, hk, e⟩ := lo_M2 hr g hs gs h2
    refine ⟨k, by omega, by omega, ?_⟩
    show lo_rX n L T H (lo_na s k) = true
    rw [← e, lo_rXz D hr g]
    exact h1
def lo_mt (R : Nat → Int32) (z : Nat) : Bool := lo_any (fun y => decide (R y ≠ 0) && lo_mY z y) 2401 0
theorem lo_met_iff (D : lo_D n L T H A) (h : lo_Rr n a b) {r : Nat} (hr : r < 4096) (g : lo_k r = true) :
    (lo_rX n L T H r = true ∧ ∃ s, s < 4096 ∧ a.1 s ≠ 0 ∧ ∃ k, k < 16 ∧ r = lo_na s k) ↔ (lo_rY n A (lo_e (lo_z r)) && lo_mt b.1 (lo_z r)) = true := by
  unfold lo_mt
  rw [Bool.and_eq_true, ← lo_rXz D hr g, lo_any_iff]
  constructor
  · rintro ⟨h1, s, hs, hR, k, _, e⟩
    obtain ⟨gs, _⟩ := lo_Rg D h hs hR
    subst e
    refine ⟨h1, lo_y s, by omega, by have := lo_y_lt hs gs; omega, ?_⟩
    have hR2 : b.1 (lo_y s) ≠ 0 := by rw [← (h.1 s hs gs).1]; exact hR
    exact Bool.and_eq_true_iff.mpr ⟨decide_eq_true hR2, lo_M1 hs gs g⟩
  · rintro ⟨h1, y, _, hy, h2⟩
    have h3 := Bool.and_eq_true_iff.mp h2
    obtain ⟨s, hs, gs, e⟩ := lo_y_sur (y := y) (by omega)
    subst e
    obtain ⟨k, hk, e⟩ := lo_M2 hr g hs gs h3.2
    exact ⟨h1, s, hs, by rw [(h.1 s hs gs).1]; exact of_decide_eq_true h3.1, k, hk, e⟩
end
/-- the list of rings, as the reference keeps it -/
def lo_u (f : Nat → Nat) (k v : Nat) : Nat → Nat := fun j => if j = k then v else f j
theorem lo_us {f : Nat → Nat} {k v : Nat} : lo_u f k v k = v := if_pos rfl
theorem lo_un {f : Nat → Nat} {k j v : Nat} (h : j ≠ k) : lo_u f k v j = f j := if_neg h
def lo_lr (G : Nat → Bool) (y : Nat) (s : Nat × (Nat → Nat)) : Nat × (Nat → Nat) := if G y = true then (s.1 + 1, lo_u s.2 s.1 y) else s
def lo_ls (G : Nat → Bool) (N : Nat) : Nat × (Nat → Nat) := lo_F (lo_lr G) (0, fun _ => 0) N
theorem lo_ls_t {G : Nat → Bool} {N : Nat} (h : G N = true) : lo_ls G (N + 1) = ((lo_ls G N).1 + 1, lo_u (lo_ls G N).2 (lo_ls G N).1 N) := by
  show lo_lr G N (lo_ls G N) = _
  unfold lo_lr
  rw [if_pos h]
theorem lo_ls_f {G : Nat → Bool} {N : Nat} (h : ¬ G N = true) : lo_ls G (N + 1) = lo_ls G N := by
  show lo_lr G N (lo_ls G N) = _
  unfold lo_lr
  rw [if_neg h]
theorem lo_ls_1 (G : Nat → Bool) : ∀ N, (lo_ls G N).1 = lo_c G N := by
  intro N
  induction N with
  | zero => rfl
  | succ N ih =>
    rw [lo_c_s]
    by_cases h : G N = true
    · rw [lo_ls_t h, if_pos h, ← ih]
    · rw [lo_ls_f h, if_neg h, ih]
theorem lo_ls_lt (G : Nat → Bool) : ∀ N j, j < (lo_ls G N).1 → (lo_ls G N).2 j < N := by
  intro N
  induction N with
  | zero => intro j hj; exact absurd hj (Nat.not_lt_zero j)
  | succ N ih =>
    intro j hj
    by_cases h : G N = true
    · rw [lo_ls_t h] at hj ⊢
      have hj' : j < (lo_ls G N).1 + 1 := hj
      show lo_u (lo_ls G N).2 (lo_ls G N).1 N j < N + 1
      by_cases e : j = (lo_ls G N).1
      · rw [e, lo_us]; omega
      · rw [lo_un e]
        have := ih j (by omega)
        omega
    · rw [lo_ls_f h] at hj ⊢
      have := ih j hj
      omega
theorem lo_ls_c (G Q : Nat → Bool) : ∀ N, lo_c (fun j => Q ((lo_ls G N).2 j)) (lo_ls G N).1 = lo_c (fun y => G y && Q y) N := by
  intro N
  induction N with
  | zero => rfl
  | succ N ih =>
    rw [lo_c_s (fun y => G y && Q y) N, ← ih]
    by_cases h : G N = true
    · rw [lo_ls_t h]
      have e1 : lo_c (fun j => Q (lo_u (lo_ls G N).2 (lo_ls G N).1 N j)) (lo_ls G N).1 = lo_c (fun j => Q ((lo_ls G N).2 j)) (lo_ls G N).1 :=
        lo_c_congr _ _ _ (fun x hx => by
          show Q (lo_u (lo_ls G N).2 (lo_ls G N).1 N x) = Q ((lo_ls G N).2 x)
          rw [lo_un (by omega)])
      have e0 : Q (lo_u (lo_ls G N).2 (lo_ls G N).1 N (lo_ls G N).1) = Q N := by rw [lo_us]
      show (if Q (lo_u (lo_ls G N).2 (lo_ls G N).1 N (lo_ls G N).1) = true then lo_c (fun j => Q (lo_u (lo_ls G N).2 (lo_ls G N).1 N j)) (lo_ls G N).1 + 1 else lo_c (fun j => Q (lo_u (lo_ls G N).2 (lo_ls G N).1 N j)) (lo_ls G N).1) = (if (G N && Q N) = true then _ else _)
      rw [e1, e0, h, Bool.true_and]
    · have hq : ¬ (G N && Q N) = true := fun q => h (Bool.and_eq_true_iff.mp q).1
      rw [lo_ls_f h]
      show _ = (if (G N && Q N) = true then _ else _)
      rw [if_neg hq]
theorem lo_ls_ex (G Q : Nat → Bool) : ∀ N, (∃ j, j < (lo_ls G N).1 ∧ Q ((lo_ls G N).2 j) = true) ↔ ∃ y, y < N ∧ G y = true ∧ Q y = true := by
  intro N
  induction N with
  | zero =>
    constructor
    · rintro ⟨j, hj, _⟩; exact absurd hj (Nat.not_lt_zero j)
    · rintro ⟨j, hj, _⟩; exact absurd hj (Nat.not_lt_zero j)
  | succ N ih =>
    by_cases h : G N = true
    · rw [lo_ls_t h]
      constructor
      · rintro ⟨j, hj, hq⟩
        have hj' : j < (lo_ls G N).1 + 1 := hj
        have hq' : Q (lo_u (lo_ls G N).2 (lo_ls G N).1 N j) = true := hq
        by_cases e : j = (lo_ls G N).1
        · rw [e, lo_us] at hq'; exact ⟨N, by omega, h, hq'⟩
        · rw [lo_un e] at hq'
          obtain ⟨y, hy, h1, h2⟩ := ih.mp ⟨j, by omega, hq'⟩
          exact ⟨y, by omega, h1, h2⟩
      · rintro ⟨y, hy, h1, h2⟩
        by_cases e : y = N
        · subst e
          refine ⟨(lo_ls G y).1, by show (lo_ls G y).1 < (lo_ls G y).1 + 1; omega, ?_⟩
          show Q (lo_u (lo_ls G y).2 (lo_ls G y).1 y (lo_ls G y).1) = true
          rw [lo_us]; exact h2
        · obtain ⟨j, hj, hq⟩ := ih.mpr ⟨y, by omega, h1, h2⟩
          refine ⟨j, by show j < (lo_ls G N).1 + 1; omega, ?_⟩
          show Q (lo_u (lo_ls G N).2 (lo_ls G N).1 N j) = true
          rw [lo_un (by omega)]; exact hq
    · rw [lo_ls_f h, ih]
      constructor
      · rintro ⟨y, hy, h1, h2⟩; exact ⟨y, by omega, h1, h2⟩
      · rintro ⟨y, hy, h1, h2⟩
        by_cases e : y = N
        · subst e; exact absurd h1 h
        · exact ⟨y, by omega, h1, h2⟩
/-- the soonest -/
def lo_sm (d : Nat → Nat) : Nat := d 0 + d 1 + d 2 + d 3
def lo_sX (m : Nat → Bool) (x : Nat) (l : Int32) : Int32 := if m x = true then (if l = -4 then nI (lo_sm (lo_d x)) else if nI (lo_sm (lo_d x)) < l then nI (lo_sm (lo_d x)) else l) else l
def lo_sY (m : Nat → Bool) (y : Nat) (l : Int32) : Int32 := if m y = true then (if nI (lo_sm (lo_e y)) < l then nI (lo_sm (lo_e y)) else l) else l
def lo_so (s t : Int32) : Prop := (s = -4 ∧ t = 99) ∨ ∃ k, k ≤ 98 ∧ s = nI k ∧ t = nI k
theorem lo_99 : (99 : Int32) = nI 99 := by decide
theorem lo_so_rel (P Q : Nat → Bool) (hg : ∀ x, x < 4096 → lo_g x = true → P x = Q (lo_y x)) (hb : ∀ x, x < 4096 → lo_g x = false → P x = false) :
    lo_so (lo_F (lo_sX P) (-4) 4096) (lo_F (lo_sY Q) 99 2401) := by
  have h := lo_F_rel lo_so (lo_sX P) (lo_sY Q) (-4) 99 lo_g lo_y 4096 lo_y_0 (Or.inl ⟨rfl, rfl⟩) lo_y_s
    (fun x hx gx s t e => by
      unfold lo_sX lo_sY
      have es : lo_sm (lo_e (lo_y x)) = lo_sm (lo_d x) := by
        unfold lo_sm
        rw [lo_y_e hx gx 0 (by decide), lo_y_e hx gx 1 (by decide), lo_y_e hx gx 2 (by decide), lo_y_e hx gx 3 (by decide)]
      have hm : lo_sm (lo_d x) < 99 := by
        have h0 := lo_d_lt x 0
        have h1 := lo_d_lt x 1
        have h2 := lo_d_lt x 2
        have h3 := lo_d_lt x 3
        unfold lo_sm
        omega
      rw [es, ← hg x hx gx]
      by_cases hp : P x = true
      · rw [if_pos hp, if_pos hp]
        rcases e with ⟨e1, e2⟩ | ⟨k, hk, e1, e2⟩
        · have h9 : nI (lo_sm (lo_d x)) < t := by rw [e2, lo_99]; exact nI_lt hm (by decide)
          rw [if_pos e1, if_pos h9]
          exact Or.inr ⟨_, by omega, rfl, rfl⟩
        · have h4 : ¬ s = -4 := by
            rw [e1]
            intro q
            have q2 := congrArg Int32.toInt q
            rw [nI_toInt (by omega), show (-4 : Int32).toInt = -4 from by decide] at q2
            omega
          rw [if_neg h4, e1, e2]
          by_cases hl : nI (lo_sm (lo_d x)) < nI k
          · rw [if_pos hl]; exact Or.inr ⟨_, by omega, rfl, rfl⟩
          · rw [if_neg hl]; exact Or.inr ⟨k, hk, rfl, rfl⟩
      · rw [if_neg hp, if_neg hp]; exact e)
    (fun x hx gx s t e => by
      unfold lo_sX
      rw [hb x hx gx, if_neg (by decide)]
      exact e) 4096 (Nat.le_refl _)
  rw [lo_y_N] at h
  exact h
theorem lo_so_ans {s t : Int32} (h : lo_so s t) : (t = 99 → s = -4) ∧ (¬ t = 99 → s = t) := by
  rcases h with ⟨e1, e2⟩ | ⟨k, hk, e1, e2⟩
  · exact ⟨fun _ => e1, fun q => absurd e2 q⟩
  · refine ⟨fun q => ?_, fun _ => by rw [e1, e2]⟩
    rw [e2, lo_99, nI_eq (by omega) (by decide)] at q
    omega
