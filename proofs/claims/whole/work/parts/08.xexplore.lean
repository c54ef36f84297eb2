/-! the component's walks: states -/
section
variable {n L T H : Nat → Nat} {R W G M : Nat → Int32}
theorem xw_doneBy {post : Int32 → Prop} {x t : Nat} (hx : x < 4096) (ht : t < 4) (h : post (nI (lo_d x t))) : wpX_doneBy post (nI x) (nI t) := by
  unfold wpX_doneBy
  rw [lo_dI hx ht]
  exact h
theorem xw_cell {post : Int32 → Prop} {t d : Nat} (h : post (nI (t * 8 + d))) : wpX_cell post (nI t) (nI d) := by
  unfold wpX_cell
  rw [lo_cellI]
  exact h
theorem xw_oneBy {post : Int32 → Prop} {t : Nat} (ht : t < 4) (h : post (nI (lo_p t))) : wpX_oneBy post (nI t) := by
  unfold wpX_oneBy
  rw [lo_oneI t ht]
  exact h
theorem xw_ibo_l {post : Int32 → Prop} {x t p : Nat} (hx : x < 4096) (ht : t < 4) (hp : p < 5) (hH : ∀ j, H j < 32) (P : Nat → Bool)
    (hP : ∀ u, u < 4 → P u = (decide (u ≠ t) && (H (u * 8 + lo_d x u)).testBit p)) : ∀ d j, j + d = 4 → post (lo_b (lo_any P d j)) →
    wX_isHeldByOther_3 post (nI x) (nI t) (nI p) (lo_a n) (lo_a L) (lo_a T) (lo_a H) R W G M (d + 1) (nI j) := by
  intro d
  induction d with
  | zero => intro j hj h; exact br_t (nI_le (a := 4) (by omega) (by omega)) h
  | succ d ih =>
    intro j hj h
    have hd := lo_d_lt x j
    have e2 : lo_any P (d + 1) j = (P j || lo_any P d (j + 1)) := rfl
    rw [e2, hP j (by omega)] at h
    refine br_f (nI_ge (a := j) (b := 4) (by omega) (by decide)) ?_
    refine xw_doneBy hx (by omega) ?_
    refine xw_cell ?_
    refine pk_eq j t (fun e => ?_) (fun e => ?_) rfl rfl (by omega) (by omega)
    · rw [decide_eq_false (show ¬ (j ≠ t) from fun q => q e), Bool.false_and, Bool.false_or] at h
      exact nm_r (nI_1 j) (ih (j + 1) (by omega) h)
    · rw [decide_eq_true (show j ≠ t from e), Bool.true_and] at h
      refine ⟨pk_in (j * 8 + lo_d x j) 32 (by omega), lo_brb (lo_at H (by omega)) (hH _) hp (fun e3 => ?_) (fun e3 => ?_)⟩
      · rw [e3, Bool.false_or] at h
        exact nm_r (nI_1 j) (ih (j + 1) (by omega) h)
      · rw [e3, Bool.true_or] at h
        exact h
theorem xw_ibo {post : Int32 → Prop} {x t p : Nat} (hx : x < 4096) (ht : t < 4) (hp : p < 5) (hH : ∀ j, H j < 32)
    (h : post (lo_b (lo_any (fun u => decide (u ≠ t) && (H (u * 8 + lo_d x u)).testBit p) 4 0))) :
    wpX_isHeldByOther post (lo_a n, lo_a L, lo_a T, lo_a H, R, W, G, M) (nI x) (nI t) (nI p) := by
  unfold wpX_isHeldByOther
  exact ⟨5, xw_ibo_l hx ht hp hH _ (fun u _ => rfl) 4 0 rfl h⟩
/-- the bounds that the component's own data keep -/
def lo_Dx (n L T H : Nat → Nat) : Prop := (∀ t, t < 4 → n t ≤ 6) ∧ (∀ j, L j < 5) ∧ (∀ j, T j ≤ 1) ∧ (∀ j, H j < 32)
theorem xw_mayGoOn (D : lo_Dx n L T H) {post : Int32 → Prop} {x t : Nat} (hx : x < 4096) (ht : t < 4) (h : post (lo_b (lo_gX n L T H x t))) :
    wpX_mayGoOn post (lo_a n, lo_a L, lo_a T, lo_a H, R, W, G, M) (nI x) (nI t) := by
  obtain ⟨hn, hL, hT, hH⟩ := D
  unfold wpX_mayGoOn
  refine xw_doneBy hx ht ?_
  have hd := lo_d_lt x t
  have hn' := hn t ht
  have hT' := hT (t * 8 + lo_d x t)
  refine ⟨pk_in t 4 ht, ?_⟩
  refine pk_lt (lo_d x t) (n t) (fun e => ?_) (fun e => ?_) rfl (lo_at n (by omega)) (by omega) (by omega)
  · refine xw_cell ?_
    refine ⟨pk_in (t * 8 + lo_d x t) 32 (by omega), ?_⟩
    refine pk_eq (T (t * 8 + lo_d x t)) 0 (fun e2 => ?_) (fun e2 => ?_) (lo_at T (by omega)) rfl (by omega) (by decide)
    · have hg : lo_gX n L T H x t = true := by
        unfold lo_gX
        rw [decide_eq_true e, decide_eq_false (show ¬ T (t * 8 + lo_d x t) = 1 by omega)]
        rfl
      rw [hg] at h
      exact h
    · refine ⟨pk_in (t * 8 + lo_d x t) 32 (by omega), ?_⟩
      rw [lo_at L (show t * 8 + lo_d x t < 2 ^ 31 by omega)]
      refine xw_ibo hx ht (hL _) hH (lo_br (fun e3 => ?_) (fun e3 => ?_))
      · have hg : lo_gX n L T H x t = true := by
          unfold lo_gX
          rw [decide_eq_true e, e3, Bool.not_false, Bool.or_true]
          rfl
        rw [hg] at h
        exact h
      · have hg : lo_gX n L T H x t = false := by
          unfold lo_gX
          rw [decide_eq_true (show T (t * 8 + lo_d x t) = 1 by omega), e3, Bool.not_true, Bool.or_false, Bool.and_false]
        rw [hg] at h
        exact h
  · have hg : lo_gX n L T H x t = false := by
      unfold lo_gX
      rw [decide_eq_false (show ¬ lo_d x t < n t by omega), Bool.false_and]
    rw [hg] at h
    exact h
theorem lo_p_lt {n : Nat → Nat} (hn : ∀ t, t < 4 → n t ≤ 6) {x t : Nat} (hx : x < 4096) (ht : t < 4) (h : lo_d x t < n t) : x + lo_p t < 4096 := by
  have h6 := hn t ht
  have ht' : t = 0 ∨ t = 1 ∨ t = 2 ∨ t = 3 := by omega
  rcases ht' with rfl | rfl | rfl | rfl <;> simp only [lo_d0, lo_d1, lo_d2, lo_d3, lo_p0, lo_p1, lo_p2, lo_p3] at h ⊢ <;> omega
theorem xw_stepFrom (D : lo_Dx n L T H) {post : SX → Prop} {x : Nat} (hx : x < 4096)
    (h : post (lo_a n, lo_a L, lo_a T, lo_a H, (lo_s4 (lo_gX n L T H) lo_p x (R, W)).1, (lo_s4 (lo_gX n L T H) lo_p x (R, W)).2, G, M)) :
    wpX_stepFrom post (lo_a n, lo_a L, lo_a T, lo_a H, R, W, G, M) (nI x) := by
  unfold wpX_stepFrom
  refine ⟨5, lo_loop (fun f i (s : (Nat → Int32) × (Nat → Int32)) => wX_stepFrom_2 post (nI x) f (nI i) (lo_a n) (lo_a L) (lo_a T) (lo_a H) s.1 s.2 G M)
    (lo_s1 (lo_gX n L T H) lo_p x) (R, W) 4 (fun f => ?_) (fun f i hi k => ?_)⟩
  · exact br_t (nI_le (a := 4) (b := 4) (by omega) (by decide)) h
  · have k' : lo_F (lo_s1 (lo_gX n L T H) lo_p x) (R, W) (i + 1) = lo_s1 (lo_gX n L T H) lo_p x i (lo_F (lo_s1 (lo_gX n L T H) lo_p x) (R, W) i) := rfl
    try dsimp only at k ⊢
    rw [k'] at k
    generalize lo_F (lo_s1 (lo_gX n L T H) lo_p x) (R, W) i = s at k ⊢
    refine br_f (nI_ge (a := i) (b := 4) (by omega) (by decide)) ?_
    refine xw_mayGoOn D hx hi (lo_br (fun e => ?_) (fun e => ?_))
    · have k2 : lo_s1 (lo_gX n L T H) lo_p x i s = s := by
        unfold lo_s1
        rw [e, if_neg (by decide)]
      rw [k2] at k
      exact nm_r (nI_1 i) k
    · have k2 : lo_s1 (lo_gX n L T H) lo_p x i s = (upd s.1 (x + lo_p i) 1, upd s.2 (x + lo_p i) (lo_w (s.2 (x + lo_p i)) (s.2 x))) := by
        unfold lo_s1
        rw [e, if_pos rfl]
      rw [k2] at k
      have hlt := lo_p_lt D.1 hx hi (lo_gX_lt e)
      refine xw_oneBy hi ?_
      refine nm_r (nI_add x (lo_p i)) ?_
      refine ⟨pk_in (x + lo_p i) 4096 hlt, ?_⟩
      refine nm_r (e' := upd s.1 (x + lo_p i) 1) (by rw [nI_clamp (by omega), lo_v1]) ?_
      refine ⟨pk_in (x + lo_p i) 4096 hlt, pk_in x 4096 hx, by decide, pk_in (x + lo_p i) 4096 hlt, ?_⟩
      refine nm_r (e' := upd s.2 (x + lo_p i) (lo_w (s.2 (x + lo_p i)) (s.2 x))) (by rw [nI_clamp (n := x + lo_p i) (by omega), nI_clamp (n := x) (by omega)]; rfl) ?_
      exact nm_r (nI_1 i) k
def lo_cl (i : Nat) (s : (Nat → Int32) × (Nat → Int32)) : (Nat → Int32) × (Nat → Int32) := (upd s.1 i 0, upd s.2 i 0)
theorem lo_cl_0 (z : (Nat → Int32) × (Nat → Int32)) : ∀ N j, j < N → (lo_F lo_cl z N).1 j = 0 ∧ (lo_F lo_cl z N).2 j = 0 := by
  intro N
  induction N with
  | zero => intro j hj; exact absurd hj (Nat.not_lt_zero j)
  | succ N ih =>
    intro j hj
    show upd (lo_F lo_cl z N).1 N 0 j = 0 ∧ upd (lo_F lo_cl z N).2 N 0 j = 0
    by_cases e : j = N
    · rw [e, pk_us, pk_us]; exact ⟨rfl, rfl⟩
    · rw [pk_un e, pk_un e]; exact ih j (by omega)
theorem lo_cl_I (N : Nat) (v : (Nat → Int32) × (Nat → Int32)) (h : ∀ j, j < N → v.1 j = 0 ∧ v.2 j = 0) : lo_I0 N (upd v.1 0 1, upd v.2 0 1) := by
  intro j hj
  show upd v.1 0 1 j = _ ∧ upd v.2 0 1 j = _
  by_cases e : j = 0
  · rw [e, pk_us, pk_us, if_pos rfl]; exact ⟨rfl, rfl⟩
  · rw [pk_un e, pk_un e, if_neg e]; exact h j hj
theorem xw_explore (D : lo_Dx n L T H) {post : SX → Prop}
    (h : ∀ a, lo_I0 4096 a → post (lo_a n, lo_a L, lo_a T, lo_a H, (lo_ex (lo_gX n L T H) lo_p a 4096).1, (lo_ex (lo_gX n L T H) lo_p a 4096).2, G, M)) :
    wpX_explore post (lo_a n, lo_a L, lo_a T, lo_a H, R, W, G, M) := by
  unfold wpX_explore
  refine ⟨4097, lo_loop (fun f i (s : (Nat → Int32) × (Nat → Int32)) => wX_explore_2 post f (nI i) (lo_a n) (lo_a L) (lo_a T) (lo_a H) s.1 s.2 G M)
    lo_cl (R, W) 4096 (fun f => ?_) (fun f i hi k => ?_)⟩
  · have h1 := h _ (lo_cl_I 4096 _ (lo_cl_0 (R, W) 4096))
    generalize lo_F lo_cl (R, W) 4096 = s at h1 ⊢
    refine br_t (nI_le (a := 4096) (b := 4096) (by omega) (by decide)) ?_
    refine nm_r (e' := upd s.1 0 1) (by rw [lo_v1]) ?_
    refine nm_e ?_
    refine ⟨4097, lo_loop (fun f i (s : (Nat → Int32) × (Nat → Int32)) => wX_explore_45 post f (nI i) (lo_a n) (lo_a L) (lo_a T) (lo_a H) s.1 s.2 G M)
      (lo_fx (lo_gX n L T H) lo_p) (upd s.1 0 1, upd s.2 0 1) 4096 (fun f => ?_) (fun f i hi k => ?_)⟩
    · exact br_t (nI_le (a := 4096) (b := 4096) (by omega) (by decide)) h1
    · have k' : lo_F (lo_fx (lo_gX n L T H) lo_p) (upd s.1 0 1, upd s.2 0 1) (i + 1) = lo_fx (lo_gX n L T H) lo_p i (lo_F (lo_fx (lo_gX n L T H) lo_p) (upd s.1 0 1, upd s.2 0 1) i) := rfl
      try dsimp only at k ⊢
      rw [k'] at k
      generalize lo_F (lo_fx (lo_gX n L T H) lo_p) (upd s.1 0 1, upd s.2 0 1) i = w at k ⊢
      refine br_f (nI_ge (a := i) (b := 4096) (by omega) (by decide)) ?_
      refine ⟨pk_in i 4096 hi, ?_⟩
      rw [nI_clamp (show i < 2 ^ 31 by omega)]
      refine br_c (fun e => ?_) (fun e => ?_)
      · have k2 : lo_fx (lo_gX n L T H) lo_p i w = w := by
          unfold lo_fx
          rw [if_pos e]
        rw [k2] at k
        exact nm_r (nI_1 i) k
      · have k2 : lo_fx (lo_gX n L T H) lo_p i w = lo_s4 (lo_gX n L T H) lo_p i w := by
          unfold lo_fx
          rw [if_neg e]
        rw [k2] at k
        refine xw_stepFrom D hi ?_
        exact nm_r (nI_1 i) k
  · have k' : lo_F lo_cl (R, W) (i + 1) = lo_cl i (lo_F lo_cl (R, W) i) := rfl
    try dsimp only at k ⊢
    rw [k'] at k
    generalize lo_F lo_cl (R, W) i = s at k ⊢
    refine br_f (nI_ge (a := i) (b := 4096) (by omega) (by decide)) ?_
    refine ⟨pk_in i 4096 hi, ?_⟩
    refine nm_r (e' := upd s.1 i 0) (by rw [nI_clamp (by omega), lo_v0]) ?_
    refine ⟨pk_in i 4096 hi, ?_⟩
    refine nm_r (e' := upd s.2 i 0) (by rw [nI_clamp (by omega)]) ?_
    exact nm_r (nI_1 i) k
end
