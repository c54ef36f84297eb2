/-! the reference's walks: states -/
theorem lo_clrx {m x : Nat} (hm : m < 32) (h8 : 8 ≤ x) (hx : x < 13) : nI m &&& (((1 : Int32) <<< ((nI x - 8) &&& 31)) ^^^ (-1)) = nI (lo_m m x) := by
  obtain ⟨p, rfl⟩ : ∃ p, x = 8 + p := ⟨x - 8, by omega⟩
  rw [lo_clrI m hm p (by omega)]
  unfold lo_m
  rw [if_neg (by omega), Nat.add_sub_cancel_left]
theorem lo_orx {m x : Nat} (hm : m < 32) (hx : x < 5) : nI m ||| ((1 : Int32) <<< (nI x &&& 31)) = nI (lo_m m x) := by
  rw [lo_orI m hm x hx]
  unfold lo_m
  rw [if_pos (by omega)]
theorem lo_stepY_d (y t u : Nat) (hy : y < 2401) (ht : t < 4) (hu : u < 4) (h : lo_e y t < 6) : lo_e (y + lo_q t) u = lo_e y u + (if u = t then 1 else 0) := by
  have ht' : t = 0 ∨ t = 1 ∨ t = 2 ∨ t = 3 := by omega
  have hu' : u = 0 ∨ u = 1 ∨ u = 2 ∨ u = 3 := by omega
  rcases ht' with rfl | rfl | rfl | rfl <;> rcases hu' with rfl | rfl | rfl | rfl <;> (first | rw [if_pos rfl] | rw [if_neg (by decide)]) <;> simp only [lo_e0, lo_e1, lo_e2, lo_e3, lo_q0, lo_q1, lo_q2, lo_q3] at h ⊢ <;> omega
theorem lo_q_lt {y t : Nat} (hy : y < 2401) (ht : t < 4) (h : lo_e y t < 6) : y + lo_q t < 2401 := by
  have ht' : t = 0 ∨ t = 1 ∨ t = 2 ∨ t = 3 := by omega
  rcases ht' with rfl | rfl | rfl | rfl <;> simp only [lo_e0, lo_e1, lo_e2, lo_e3, lo_q0, lo_q1, lo_q2, lo_q3] at h ⊢ <;> omega
def lo_iY (n : Nat → Nat) (R : Nat → Int32) : Prop := ∀ y, y < 2401 → R y ≠ 0 → ∀ t, t < 4 → lo_e y t ≤ n t
theorem lo_gY_ne {n A : Nat → Nat} {y t : Nat} (h : lo_gY n A y t = true) : lo_e y t ≠ n t := by
  unfold lo_gY at h
  exact of_decide_eq_true (Bool.and_eq_true_iff.mp h).1
theorem lo_s1_iY {n A : Nat → Nat} (hn : ∀ t, t < 4 → n t ≤ 6) {y t : Nat} (hy : y < 2401) (ht : t < 4) (hd : ∀ u, u < 4 → lo_e y u ≤ n u)
    {b : (Nat → Int32) × (Nat → Int32)} (h : lo_iY n b.1) : lo_iY n (lo_s1 (lo_gY n A) lo_q y t b).1 := by
  unfold lo_s1
  by_cases e : lo_gY n A y t = true
  · rw [if_pos e]
    have h1 := hd t ht
    have h2 := lo_gY_ne e
    have h3 := hn t ht
    intro z hz hr u hu
    have hr' : upd b.1 (y + lo_q t) 1 z ≠ 0 := hr
    by_cases ez : z = y + lo_q t
    · rw [ez, lo_stepY_d y t u hy ht hu (by omega)]
      have h4 := hd u hu
      by_cases eu : u = t
      · subst eu; rw [if_pos rfl]; omega
      · rw [if_neg eu]; omega
    · rw [pk_un ez] at hr'
      exact h z hz hr' u hu
  · rw [if_neg e]; exact h
theorem lo_s1_keep {g : Nat → Nat → Bool} {y t : Nat} (b : (Nat → Int32) × (Nat → Int32)) : (lo_s1 g lo_q y t b).1 y = b.1 y := by
  unfold lo_s1
  have hq := lo_q_pos t
  by_cases e : g y t = true
  · rw [if_pos e]
    show upd b.1 (y + lo_q t) 1 y = b.1 y
    rw [pk_un (by omega)]
  · rw [if_neg e]
section
variable {n A : Nat → Nat} {mn : Int32} {R W S K C : Nat → Int32}
/-- what the reference's own data keep -/
def lo_Dy (n A : Nat → Nat) (S : Nat → Int32) : Prop := (∀ t, t < 4 → n t ≤ 6) ∧ (∀ j, lo_ok (A j)) ∧ (∀ t, t < 4 → S t = nI (lo_q t))
theorem yw_held (D : lo_Dy n A S) {post : Int32 → Prop} {t k : Nat} (ht : t < 4) (hk : k ≤ 6) (h : post (nI (lo_h A t k))) :
    wpY_held post (mn, lo_a A, lo_a n, R, W, S, K, C) (nI t) (nI k) := by
  unfold wpY_held
  refine ⟨k + 1, lo_loopS (fun f i (s : Nat) => wY_held_5 post (nI t) (nI k) mn (lo_a A) (lo_a n) R W S K C f (nI s) (nI i)) (lo_h A t) k (fun f => ?_) (fun f i hi q => ?_)⟩
  · exact br_t (nI_le (a := k) (b := k) (by omega) (by omega)) h
  · try dsimp only at q ⊢
    have hm := lo_h_lt D.2.1 t i
    have hx := D.2.1 (6 * t + i)
    refine br_f (nI_ge (a := i) (b := k) hi (by omega)) ?_
    rw [lo_cell6]
    refine ⟨pk_in (6 * t + i) 24 (by omega), ?_⟩
    refine nm_r (lo_at A (by omega)) ?_
    refine pk_le 8 (A (6 * t + i)) (fun e => ?_) (fun e => ?_) rfl rfl (by decide) (by rcases hx with q | q <;> omega)
    · refine nm_r (e' := nI (lo_h A t (i + 1))) ?_ (nm_r (nI_1 i) q)
      exact lo_clrx hm e (by rcases hx with q | q <;> omega)
    · refine nm_r (e' := nI (lo_h A t (i + 1))) ?_ (nm_r (nI_1 i) q)
      exact lo_orx hm (by rcases hx with q | q <;> omega)
theorem yw_done (D : lo_Dy n A S) {post : Int32 → Prop} {y t : Nat} (hy : y < 2401) (ht : t < 4) (h : post (nI (lo_e y t))) :
    wpY_done post (mn, lo_a A, lo_a n, R, W, S, K, C) (nI y) (nI t) := by
  unfold wpY_done
  have hq := lo_q_pos t
  try dsimp only
  rw [nI_clamp (show t < 2 ^ 31 by omega), D.2.2 t ht, lo_eI hy]
  exact ⟨pk_in t 4 ht, nI_ne0 hq.1 (by omega), by decide, h⟩
theorem yw_68 {post : Int32 → Prop} {J : Int32 → Prop} {y t : Int32} {m x j : Nat} (hm : m < 32) (hx : lo_ok x)
    (hJ : (decide (x < 8) && m.testBit x) = false → J (nI (j + 1))) (h0 : (decide (x < 8) && m.testBit x) = true → post 0) :
    wY_mayGoOn_68 post J y t (nI x) (nI j) (nI m) mn (lo_a A) (lo_a n) R W S K C := by
  unfold wY_mayGoOn_68
  have hx2 : x < 13 := by rcases hx with q | q <;> omega
  refine pk_le 8 x (fun e => ?_) (fun e => ?_) rfl rfl (by decide) (by omega)
  · exact nm_r (nI_1 j) (hJ (by rw [decide_eq_false (show ¬ x < 8 by omega), Bool.false_and]))
  · have hx5 : x < 5 := by rcases hx with q | q <;> omega
    refine lo_brY hm hx5 (fun e2 => ?_) (fun e2 => ?_)
    · exact h0 (by rw [decide_eq_true e, e2]; rfl)
    · exact nm_r (nI_1 j) (hJ (by rw [e2, Bool.and_false]))
theorem yw_go_l (D : lo_Dy n A S) {post : Int32 → Prop} {y t x : Nat} (hy : y < 2401) (ht : t < 4) (hx : lo_ok x) (P : Nat → Bool)
    (hP : ∀ u, u < 4 → P u = (decide (x < 8) && (if u = t then 0 else lo_h A u (lo_e y u)).testBit x)) : ∀ d j, j + d = 4 → post (lo_b (!lo_any P d j)) →
    wY_mayGoOn_35 post (nI y) (nI t) (nI x) mn (lo_a A) (lo_a n) R W S K C (d + 1) (nI j) := by
  intro d
  induction d with
  | zero => intro j hj h; exact br_t (nI_le (a := 4) (by omega) (by omega)) h
  | succ d ih =>
    intro j hj h
    have he := lo_e_lt y j
    have e2 : lo_any P (d + 1) j = (P j || lo_any P d (j + 1)) := rfl
    rw [e2, hP j (by omega)] at h
    refine br_f (nI_ge (a := j) (b := 4) (by omega) (by decide)) ?_
    refine yw_done D hy (by omega) ?_
    refine pk_eq j t (fun e => ?_) (fun e => ?_) rfl rfl (by omega) (by omega)
    · rw [if_pos e] at h
      refine yw_68 (m := 0) (by decide) hx (fun q => ?_) (fun q => ?_)
      · rw [q, Bool.false_or] at h
        exact ih (j + 1) (by omega) h
      · rw [q, Bool.true_or] at h
        exact h
    · rw [if_neg e] at h
      refine yw_held D (by omega) (by omega) ?_
      refine yw_68 (lo_h_lt D.2.1 j _) hx (fun q => ?_) (fun q => ?_)
      · rw [q, Bool.false_or] at h
        exact ih (j + 1) (by omega) h
      · rw [q, Bool.true_or] at h
        exact h
theorem yw_mayGoOn (D : lo_Dy n A S) {post : Int32 → Prop} {y t : Nat} (hy : y < 2401) (ht : t < 4) (hd : lo_e y t ≤ n t) (h : post (lo_b (lo_gY n A y t))) :
    wpY_mayGoOn post (mn, lo_a A, lo_a n, R, W, S, K, C) (nI y) (nI t) := by
  unfold wpY_mayGoOn
  unfold lo_gY at h
  have hn := D.1 t ht
  refine yw_done D hy ht ?_
  refine ⟨pk_in t 4 ht, ?_⟩
  refine pk_eq (lo_e y t) (n t) (fun e => ?_) (fun e => ?_) rfl (lo_at n (by omega)) (by omega) (by omega)
  · rw [decide_eq_false (show ¬ (lo_e y t ≠ n t) from fun q => q e), Bool.false_and] at h
    exact h
  · rw [decide_eq_true (show lo_e y t ≠ n t from e), Bool.true_and] at h
    rw [lo_cell6]
    refine ⟨pk_in (6 * t + lo_e y t) 24 (by omega), ?_⟩
    refine nm_r (lo_at A (by omega)) ?_
    exact ⟨5, yw_go_l D hy ht (D.2.1 _) _ (fun u _ => rfl) 4 0 rfl h⟩
theorem yw_56 (D : lo_Dy n A S) {post : SY → Prop} {J : Int32 → (Nat → Int32) → (Nat → Int32) → (Nat → Int32) → (Nat → Int32) → (Nat → Int32) → (Nat → Int32) → (Nat → Int32) → Prop} {y : Nat} (hy : y < 2401) (hi : lo_iY n R)
    (h : J (nI (y + 1)) (lo_a A) (lo_a n) (lo_fx (lo_gY n A) lo_q y (R, W)).1 (lo_fx (lo_gY n A) lo_q y (R, W)).2 S K C) :
    wY_work_56 post J (nI y) mn 5 0 (lo_a A) (lo_a n) R W S K C := by
  unfold lo_fx at h
  by_cases hr : R y = 0
  · rw [if_pos hr] at h
    refine br_f (nI_ge (a := 0) (b := 4) (by omega) (by decide)) ?_
    refine ⟨pk_in y 2401 hy, ?_⟩
    rw [nI_clamp (show y < 2 ^ 31 by omega)]
    exact br_t hr (nm_r (nI_1 y) h)
  · rw [if_neg hr] at h
    refine lo_loop (fun f i (s : (Nat → Int32) × (Nat → Int32)) => wY_work_56 post J (nI y) mn f (nI i) (lo_a A) (lo_a n) s.1 s.2 S K C) (lo_s1 (lo_gY n A) lo_q y) (R, W) 4 (fun f => ?_) (fun f i hi4 k => ?_)
    · exact br_t (nI_le (a := 4) (b := 4) (by omega) (by decide)) (nm_r (nI_1 y) h)
    · have hd : ∀ u, u < 4 → lo_e y u ≤ n u := hi y hy hr
      have keep : ∀ i, (lo_F (lo_s1 (lo_gY n A) lo_q y) (R, W) i).1 y = R y := by
        intro i
        induction i with
        | zero => rfl
        | succ i ih =>
          show (lo_s1 (lo_gY n A) lo_q y i (lo_F (lo_s1 (lo_gY n A) lo_q y) (R, W) i)).1 y = R y
          rw [lo_s1_keep, ih]
      have kp := keep i
      have k' : lo_F (lo_s1 (lo_gY n A) lo_q y) (R, W) (i + 1) = lo_s1 (lo_gY n A) lo_q y i (lo_F (lo_s1 (lo_gY n A) lo_q y) (R, W) i) := rfl
      try dsimp only at k ⊢
      rw [k'] at k
      generalize lo_F (lo_s1 (lo_gY n A) lo_q y) (R, W) i = s at k kp ⊢
      refine br_f (nI_ge (a := i) (b := 4) (by omega) (by decide)) ?_
      refine ⟨pk_in y 2401 hy, ?_⟩
      rw [nI_clamp (show y < 2 ^ 31 by omega)]
      refine br_f (by rw [kp]; exact hr) ?_
      refine yw_mayGoOn D hy hi4 (hd i hi4) (lo_br (fun e => ?_) (fun e => ?_))
      · have k2 : lo_s1 (lo_gY n A) lo_q y i s = s := by
          unfold lo_s1
          rw [e, if_neg (by decide)]
        rw [k2] at k
        exact nm_r (nI_1 i) k
      · have k2 : lo_s1 (lo_gY n A) lo_q y i s = (upd s.1 (y + lo_q i) 1, upd s.2 (y + lo_q i) (lo_w (s.2 (y + lo_q i)) (s.2 y))) := by
          unfold lo_s1
          rw [e, if_pos rfl]
        rw [k2] at k
        have h1 := hd i hi4
        have h2 := lo_gY_ne e
        have h3 := D.1 i hi4
        have hlt := lo_q_lt hy hi4 (show lo_e y i < 6 by omega)
        refine ⟨pk_in i 4 hi4, ?_⟩
        refine nm_r (e' := nI (y + lo_q i)) (by rw [nI_clamp (show i < 2 ^ 31 by omega), D.2.2 i hi4, nI_add]) ?_
        refine ⟨pk_in (y + lo_q i) 2401 hlt, ?_⟩
        refine nm_r (e' := upd s.1 (y + lo_q i) 1) (by rw [nI_clamp (by omega), lo_v1]) ?_
        refine ⟨pk_in (y + lo_q i) 2401 hlt, pk_in y 2401 hy, by decide, pk_in (y + lo_q i) 2401 hlt, ?_⟩
        refine nm_r (e' := upd s.2 (y + lo_q i) (lo_w (s.2 (y + lo_q i)) (s.2 y))) (by rw [nI_clamp (n := y + lo_q i) (by omega)]; rfl) ?_
        exact nm_r (nI_1 i) k
theorem lo_s4_iY (hn : ∀ t, t < 4 → n t ≤ 6) {y : Nat} (hy : y < 2401) (hd : ∀ u, u < 4 → lo_e y u ≤ n u) {b : (Nat → Int32) × (Nat → Int32)} (h : lo_iY n b.1) : lo_iY n (lo_s4 (lo_gY n A) lo_q y b).1 :=
  lo_s1_iY hn hy (t := 3) (by decide) hd (lo_s1_iY hn hy (t := 2) (by decide) hd (lo_s1_iY hn hy (t := 1) (by decide) hd (lo_s1_iY hn hy (t := 0) (by decide) hd h)))
theorem lo_fx_iY (hn : ∀ t, t < 4 → n t ≤ 6) {y : Nat} (hy : y < 2401) {b : (Nat → Int32) × (Nat → Int32)} (h : lo_iY n b.1) : lo_iY n (lo_fx (lo_gY n A) lo_q y b).1 := by
  unfold lo_fx
  by_cases e : b.1 y = 0
  · rw [if_pos e]; exact h
  · rw [if_neg e]; exact lo_s4_iY hn hy (h y hy e) h
theorem lo_ex_iY (hn : ∀ t, t < 4 → n t ≤ 6) {b : (Nat → Int32) × (Nat → Int32)} (h : lo_iY n b.1) : ∀ N, N ≤ 2401 → lo_iY n (lo_ex (lo_gY n A) lo_q b N).1 := by
  intro N
  induction N with
  | zero => intro _; exact h
  | succ N ih =>
    intro hN
    show lo_iY n (lo_fx (lo_gY n A) lo_q N (lo_ex (lo_gY n A) lo_q b N)).1
    exact lo_fx_iY hn (by omega) (ih (by omega))
theorem lo_I0_iY {b : (Nat → Int32) × (Nat → Int32)} (h : lo_I0 2401 b) : lo_iY n b.1 := by
  intro y hy hr t _
  have h1 := (h y hy).1
  by_cases e : y = 0
  · subst e
    unfold lo_e
    rw [Nat.zero_div, Nat.zero_mod]
    exact Nat.zero_le _
  · rw [if_neg e] at h1
    exact absurd h1 hr
def lo_yc (i : Nat) (s : (Nat → Int32) × (Nat → Int32)) : (Nat → Int32) × (Nat → Int32) := (upd s.1 i (if i = 0 then 1 else 0), upd s.2 i (if i = 0 then 1 else 0))
theorem lo_yc_0 (z : (Nat → Int32) × (Nat → Int32)) : ∀ N, lo_I0 N (lo_F lo_yc z N) := by
  intro N
  induction N with
  | zero => intro j hj; exact absurd hj (Nat.not_lt_zero j)
  | succ N ih =>
    intro j hj
    show upd (lo_F lo_yc z N).1 N (if N = 0 then 1 else 0) j = _ ∧ upd (lo_F lo_yc z N).2 N (if N = 0 then 1 else 0) j = _
    by_cases e : j = N
    · rw [e, pk_us, pk_us]; exact ⟨rfl, rfl⟩
    · rw [pk_un e, pk_un e]; exact ih j (by omega)
theorem yw_work (D : lo_Dy n A S) {post : SY → Prop}
    (h : ∀ b, lo_I0 2401 b → post (mn, lo_a A, lo_a n, (lo_ex (lo_gY n A) lo_q b 2401).1, (lo_ex (lo_gY n A) lo_q b 2401).2, S, K, C)) :
    wpY_work post (mn, lo_a A, lo_a n, R, W, S, K, C) := by
  unfold wpY_work
  refine ⟨2402, lo_loop (fun f i (s : (Nat → Int32) × (Nat → Int32)) => wY_work_2 post mn f (nI i) (lo_a A) (lo_a n) s.1 s.2 S K C) lo_yc (R, W) 2401 (fun f => ?_) (fun f i hi k => ?_)⟩
  · have h1 := lo_yc_0 (R, W) 2401
    try dsimp only
    generalize lo_F lo_yc (R, W) 2401 = b at h1 ⊢
    refine br_t (nI_le (a := 2401) (b := 2401) (by omega) (by decide)) ?_
    refine ⟨2402, lo_loop (fun f i (s : (Nat → Int32) × (Nat → Int32)) => wY_work_47 post mn f (nI i) (lo_a A) (lo_a n) s.1 s.2 S K C) (lo_fx (lo_gY n A) lo_q) b 2401 (fun f => ?_) (fun f i hi k => ?_)⟩
    · exact br_t (nI_le (a := 2401) (b := 2401) (by omega) (by decide)) (h b h1)
    · have hI : lo_iY n (lo_F (lo_fx (lo_gY n A) lo_q) b i).1 := lo_ex_iY D.1 (lo_I0_iY h1) i (by omega)
      have k' : lo_F (lo_fx (lo_gY n A) lo_q) b (i + 1) = lo_fx (lo_gY n A) lo_q i (lo_F (lo_fx (lo_gY n A) lo_q) b i) := rfl
      try dsimp only at k ⊢
      rw [k'] at k
      generalize lo_F (lo_fx (lo_gY n A) lo_q) b i = w at k hI ⊢
      refine br_f (nI_ge (a := i) (b := 2401) (by omega) (by decide)) ?_
      exact ⟨5, yw_56 D hi hI k⟩
  · have k' : lo_F lo_yc (R, W) (i + 1) = (upd (lo_F lo_yc (R, W) i).1 i (if i = 0 then 1 else 0), upd (lo_F lo_yc (R, W) i).2 i (if i = 0 then 1 else 0)) := rfl
    try dsimp only at k ⊢
    rw [k'] at k
    generalize lo_F lo_yc (R, W) i = s at k ⊢
    refine br_f (nI_ge (a := i) (b := 2401) (by omega) (by decide)) ?_
    refine pk_eq i 0 (fun e => ?_) (fun e => ?_) rfl rfl (by omega) (by decide)
    · rw [if_pos e] at k
      unfold wY_work_23
      refine ⟨pk_in i 2401 hi, ?_⟩
      refine nm_r (e' := upd s.1 i 1) (by rw [nI_clamp (by omega), lo_v1]) ?_
      refine br_t (by rw [e]; rfl) ⟨pk_in i 2401 hi, ?_⟩
      refine nm_r (e' := upd s.2 i 1) (by rw [nI_clamp (by omega)]) ?_
      exact nm_r (nI_1 i) k
    · rw [if_neg e] at k
      unfold wY_work_23
      refine ⟨pk_in i 2401 hi, ?_⟩
      refine nm_r (e' := upd s.1 i 0) (by rw [nI_clamp (by omega), lo_v0]) ?_
      refine br_f (nI_ne0 (by omega) (by omega)) ⟨pk_in i 2401 hi, ?_⟩
      refine nm_r (e' := upd s.2 i 0) (by rw [nI_clamp (by omega)]) ?_
      exact nm_r (nI_1 i) k
end
